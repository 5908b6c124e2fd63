/-! the place that the most cases need, as the given program finds it -/
def cl (b : Nat → Bool) (n : Nat) : Nat := ((List.range n).filter b).length
theorem cl_s {b : Nat → Bool} {n : Nat} : cl b (n + 1) = cl b n + (if b n = true then 1 else 0) := by
  unfold cl
  rw [List.range_succ, List.filter_append, List.length_append]
  congr 1
  rw [List.filter_cons]
  by_cases g : b n = true
  · rw [if_pos g, if_pos g]; rfl
  · rw [if_neg g, if_neg g]; rfl
theorem cl_up {b : Nat → Bool} {m : Nat} : ∀ d : Nat, (∀ c, m ≤ c → c < m + d → b c = false) → cl b (m + d) = cl b m
  | 0, _ => rfl
  | d + 1, h => by
    rw [show m + (d + 1) = m + d + 1 by omega, cl_s, cl_up d (fun c h1 h2 => h c h1 (by omega)), h (m + d) (by omega) (by omega)]
    simp
theorem cl_congr {b b' : Nat → Bool} : ∀ n : Nat, (∀ c, c < n → b c = b' c) → cl b n = cl b' n
  | 0, _ => rfl
  | n + 1, h => by rw [cl_s, cl_s, cl_congr n (fun c hc => h c (by omega)), h n (by omega)]
theorem cl_pos {b : Nat → Bool} {c : Nat} : ∀ n : Nat, c < n → b c = true → 0 < cl b n
  | 0, h, _ => by omega
  | n + 1, h, hb => by
    rw [cl_s]
    by_cases q : c = n
    · rw [if_pos (by rw [← q]; exact hb)]; omega
    · have := cl_pos n (by omega) hb
      omega
def pc1 (x : Nat) : Nat := x - ((x / 2) &&& 1431655765)
def pc2 (x : Nat) : Nat := (x &&& 858993459) + ((x / 4) &&& 858993459)
def pc3 (x : Nat) : Nat := (x + x / 16) &&& 252645135
theorem pc_1 : ∀ x : Fin 256, wrap (((x.val : Nat) : Int) - jand (jushr ((x.val : Nat) : Int) 1) 1431655765) = ((pc1 x.val : Nat) : Int) ∧ pc1 x.val < 256 := by decide +kernel
theorem pc_2 : ∀ x : Fin 256, wrap (jand ((x.val : Nat) : Int) 858993459 + jand (jushr ((x.val : Nat) : Int) 2) 858993459) = ((pc2 x.val : Nat) : Int) ∧ pc2 x.val < 128 := by decide +kernel
theorem pc_3 : ∀ x : Fin 128, jand (wrap (((x.val : Nat) : Int) + jushr ((x.val : Nat) : Int) 4)) 252645135 = ((pc3 x.val : Nat) : Int) ∧ pc3 x.val < 256 := by decide +kernel
theorem pc_4 : ∀ x : Fin 256, wrap (((x.val : Nat) : Int) + jushr ((x.val : Nat) : Int) 8) = ((x.val : Nat) : Int) := by decide +kernel
theorem pc_5 : ∀ x : Fin 256, wrap (((x.val : Nat) : Int) + jushr ((x.val : Nat) : Int) 16) = ((x.val : Nat) : Int) := by decide +kernel
theorem pc_6 : ∀ x : Fin 256, jand ((x.val : Nat) : Int) 63 = ((x.val % 64 : Nat) : Int) := by decide +kernel
theorem pc_7 : ∀ x : Fin 256, pc3 (pc2 (pc1 x.val)) % 64 = cl (fun c => x.val.testBit c) 8 := by decide +kernel
theorem bit_p (M : Fin 256) : F_J6_bitCount_0f7a4 ((M.val : Nat) : Int) = ((cl (fun c => M.val.testBit c) 8 : Nat) : Int) := by
  obtain ⟨e1, b1⟩ := pc_1 M
  obtain ⟨e2, b2⟩ := pc_2 ⟨pc1 M.val, b1⟩
  obtain ⟨e3, b3⟩ := pc_3 ⟨pc2 (pc1 M.val), b2⟩
  have e4 := pc_4 ⟨pc3 (pc2 (pc1 M.val)), b3⟩
  have e5 := pc_5 ⟨pc3 (pc2 (pc1 M.val)), b3⟩
  have e6 := pc_6 ⟨pc3 (pc2 (pc1 M.val)), b3⟩
  simp only at e2 e3 e4 e5 e6
  unfold F_J6_bitCount_0f7a4
  rw [e1, bnd_eq, e2, bnd_eq, e3, bnd_eq, e4, bnd_eq, e5, bnd_eq, e6, pc_7 M]
theorem bit_n8 {k M : Nat} (hk : k < 6) (hM : M < 256) : F_J6_bitCount_0f7a4 (jand ((M + 256 * k : Nat) : Int) 255) = ((cl (fun c => M.testBit c) 8 : Nat) : Int) ∧ jshr ((M + 256 * k : Nat) : Int) 8 = ((k : Nat) : Int) := by
  have e1 : jand ((M + 256 * k : Nat) : Int) 255 = (((M + 256 * k) % 2 ^ 8 : Nat) : Int) := jand_m (x := M + 256 * k) (k := 8) (by omega) (by omega)
  have e2 : jshr ((M + 256 * k : Nat) : Int) 8 = (((M + 256 * k) / 2 ^ 8 : Nat) : Int) := jshr_n (x := M + 256 * k) (k := 8) (by omega) (by omega)
  rw [e1, e2, show (M + 256 * k) % 2 ^ 8 = M by omega, show (M + 256 * k) / 2 ^ 8 = k by omega]
  exact ⟨bit_p ⟨M, hM⟩, rfl⟩
theorem kd_le5 {τ : Sg} {P : Pth} {x : Int} (hF : WFK (τ 1) (τ 2) (τ 3)) (hM : WFM τ) (h0 : 0 ≤ kd τ (hk P) x) (h1 : 1 ≤ x) : kd τ (hk P) x ≤ 5 := by
  by_cases z : x ≤ 3
  · unfold kd kdF
    rw [if_pos z]
    split
    · have := hM.2.2.1 (x - 1).toNat (by omega); omega
    · omega
  · obtain ⟨b, i, hb, hi, e, hkb⟩ := kd_par z h0
    rw [e, kd_in hb hi]
    unfold kdG
    split
    · split <;> omega
    · split
      · split
        · rename_i c3 cc
          obtain ⟨z1, z2, z3⟩ := hF.2 (kd τ (hk P) b).toNat (hk P b).toNat (by omega) (by omega)
          have := z3 i.toNat (by rw [show 4 * (kd τ (hk P) b).toNat + (hk P b).toNat = (4 * kd τ (hk P) b + hk P b).toNat by omega]; omega)
          rw [show (3 * (4 * kd τ (hk P) b + hk P b) + i).toNat = 3 * (4 * (kd τ (hk P) b).toNat + (hk P b).toNat) + i.toNat by omega]
          omega
        · omega
      · omega
/-- the best of the places seen, the cells of these cleared -/
def BestAt (σ : Sg) (K : Int → Int) (ct : Int → Nat) (k : Nat) (b most kind : Int) (σk : Sg) : Prop := FrL σ σk ∧ σk 37 8 = σ 37 8 ∧ σk 41 = σ 41 ∧ (∀ j : Nat, j < k → σk 42 (σ 41 j).toNat = 0) ∧ (∀ y : Int, 1 ≤ y → (∀ j : Nat, j < k → ¬ σ 41 j = y) → σk 42 y.toNat = σ 42 y.toNat) ∧ ((k = 0 ∧ b = -1 ∧ most = 0) ∨ ∃ i : Nat, i < k ∧ b = σ 41 i ∧ most = ct b ∧ kind = K b ∧ ∀ j : Nat, j < k → ct (σ 41 j) < ct b ∨ (ct (σ 41 j) = ct b ∧ b ≤ σ 41 j))
theorem step88 {b most kind x v : Int} {k : Nat} {σk : Sg} (h8 : (k : Int) < σk 37 8) (hk : k < 120) (h41 : σk 41 k = x) (hx : 1 ≤ x ∧ x ≤ 468) (h42 : σk 42 x.toNat = v) : L_X3_seekMost_88 b most kind k σk = if most < F_J6_bitCount_0f7a4 (jand v 255) ∨ (F_J6_bitCount_0f7a4 (jand v 255) = most ∧ ¬ b ≤ x) then some (.inl (x, F_J6_bitCount_0f7a4 (jand v 255), jshr v 8, ((k + 1 : Nat) : Int), up2 σk 42 x.toNat 0)) else some (.inl (b, most, kind, ((k + 1 : Nat) : Int), up2 σk 42 x.toNat 0)) := by
  have hw : wrap ((k : Int) + 1) = ((k + 1 : Nat) : Int) := by rw [wrap_id (by omega) (by omega)]; omega
  have hr1 : rdD (-1) σk 41 120 (k : Int) = x := by rw [rdD_ok (by omega) (by omega), show ((k : Int)).toNat = k by omega, h41]
  have hr2 : rdD (-1) σk 42 469 x = v := by rw [rdD_ok (by omega) (by omega), h42]
  have hw2 : wrD σk 42 469 x 0 = up2 σk 42 x.toNat 0 := wrD_ok (by omega) (by omega)
  have hn : ¬ σk 37 8 ≤ (k : Int) := by omega
  unfold L_X3_seekMost_88 B_X3_seekMost_148 B_X3_seekMost_160
  rw [if_neg hn, hr1, bnd_eq, hr2, bnd_eq, bnd_eq, hw2, bnd_eq, bnd_eq, hw]
  clear hw hr1 hr2 hw2 hn h42 h41 h8
  generalize F_J6_bitCount_0f7a4 (jand v 255) = bc
  generalize jshr v 8 = sh
  rw [bnd_eq]
  by_cases g1 : most < bc
  · rw [if_pos g1, if_pos (Or.inl g1)]
  · rw [if_neg g1]
    by_cases g2 : bc = most
    · rw [if_pos g2]
      by_cases g3 : b ≤ x
      · rw [if_pos g3, if_neg (by omega)]
      · rw [if_neg g3, if_pos (Or.inr ⟨g2, g3⟩)]
    · rw [if_neg g2, if_neg (by omega)]
set_option maxHeartbeats 4000000 in
theorem best_s {σ : Sg} {g : Int → Nat → Prop} {K : Int → Int} {ct : Int → Nat} {n : Nat} (h8 : σ 37 8 = n) (hd : ∀ i j : Nat, i < j → j < n → ¬ σ 41 i = σ 41 j) (hpr : ∀ i : Nat, i < n → prP 3 (σ 41 i)) (hin : ∀ x : Int, 1 ≤ x → x ≤ 468 → ((∃ i : Nat, i < n ∧ σ 41 i = x) ↔ ∃ c : Nat, c < 8 ∧ g x c)) (hcell : ∀ x : Int, 1 ≤ x → x ≤ 468 → cellN (σ 42 x.toNat) (g x) (K x)) (hK : ∀ x c, c < 8 → g x c → 0 ≤ K x ∧ K x ≤ 5) (hct : ∀ (x : Int) (M : Nat), M < 256 → (∀ c : Nat, c < 8 → (M.testBit c = true ↔ g x c)) → cl (fun c => M.testBit c) 8 = ct x) {k : Nat} (hk : k < n) {b most kind : Int} {σk : Sg} (h : BestAt σ K ct k b most kind σk) : ∃ b' most' kind' σ', L_X3_seekMost_88 b most kind k σk = some (.inl (b', most', kind', ((k + 1 : Nat) : Int), σ')) ∧ BestAt σ K ct (k + 1) b' most' kind' σ' := by
  obtain ⟨a1, a2, a3, a4, a5, a6⟩ := h
  have hn := pls_len hd hpr
  have hx := prP_468 (hpr k hk)
  obtain ⟨x, ex⟩ : ∃ x, x = σ 41 k := ⟨_, rfl⟩
  rw [← ex] at hx
  obtain ⟨c0, c1, c2⟩ := (hin x hx.1 hx.2).mp ⟨k, hk, ex.symm⟩
  have hK5 := hK x c0 c1 c2
  have hv : σk 42 x.toNat = σ 42 x.toNat := a5 x hx.1 (fun j hj => by rw [ex]; exact hd j k hj hk)
  rcases hcell x hx.1 hx.2 with ⟨z1, z2⟩ | ⟨M, m1, -, m3, m4⟩
  · exact absurd c2 (z1 c0 c1)
  have hcx := hct x M m1 m4
  have hpos : 0 < ct x := by rw [← hcx]; exact cl_pos 8 c1 ((m4 c0 c1).mpr c2)
  have hstep : L_X3_seekMost_88 b most kind k σk = if most < ct x ∨ ((ct x : Int) = most ∧ ¬ b ≤ x) then some (.inl (x, ct x, K x, ((k + 1 : Nat) : Int), up2 σk 42 x.toNat 0)) else some (.inl (b, most, kind, ((k + 1 : Nat) : Int), up2 σk 42 x.toNat 0)) := by
    have h1 := step88 (b := b) (most := most) (kind := kind) (k := k) (x := x) (v := ((M + 256 * (K x).toNat : Nat) : Int)) (σk := σk) (by rw [a2, h8]; omega) (by omega) (by rw [a3]; exact ex.symm) hx (by rw [hv, m3]; omega)
    rw [h1, (bit_n8 (k := (K x).toNat) (M := M) (by omega) m1).1, (bit_n8 (k := (K x).toNat) (M := M) (by omega) m1).2, hcx, show (((K x).toNat : Nat) : Int) = K x by omega]
  have hfr : ∀ b' most' kind' : Int, (∃ i : Nat, i < k + 1 ∧ b' = σ 41 i ∧ most' = ct b' ∧ kind' = K b' ∧ ∀ j : Nat, j < k + 1 → ct (σ 41 j) < ct b' ∨ (ct (σ 41 j) = ct b' ∧ b' ≤ σ 41 j)) → BestAt σ K ct (k + 1) b' most' kind' (up2 σk 42 x.toNat 0) := fun b' most' kind' hh => by
    refine ⟨a1.trans FrL.m1, by rw [up2_row (by omega)]; exact a2, by funext j; rw [up2_row (by omega), a3], fun j hj => ?_, fun y y1 hy => ?_, Or.inr hh⟩
    · by_cases q : j = k
      · rw [q, ← ex, up2_at rfl rfl]
      · have hxj := prP_468 (hpr j (by omega))
        have := hd j k (by omega) hk
        rw [← ex] at this
        rw [up2_idx (by omega)]
        exact a4 j (by omega)
    · have := hy k (by omega)
      rw [← ex] at this
      rw [up2_idx (by omega)]
      exact a5 y y1 (fun j hj => hy j (by omega))
  by_cases gt : most < ct x ∨ ((ct x : Int) = most ∧ ¬ b ≤ x)
  · rw [hstep, if_pos gt]
    refine ⟨_, _, _, _, rfl, hfr _ _ _ ⟨k, by omega, ex, rfl, rfl, fun j hj => ?_⟩⟩
    by_cases q : j = k
    · rw [q, ← ex]; exact Or.inr ⟨rfl, by omega⟩
    · rcases a6 with ⟨z, -, -⟩ | ⟨i, i1, i2, i3, i4, i5⟩
      · omega
      · have := i5 j (by omega)
        omega
  · rw [hstep, if_neg gt]
    rcases a6 with ⟨z1, z2, z3⟩ | ⟨i, i1, i2, i3, i4, i5⟩
    · omega
    · refine ⟨_, _, _, _, rfl, hfr _ _ _ ⟨i, by omega, i2, i3, i4, fun j hj => ?_⟩⟩
      by_cases q : j = k
      · rw [q, ← ex]; omega
      · exact i5 j (by omega)
theorem best_lk {σ : Sg} {g : Int → Nat → Prop} {K : Int → Int} {ct : Int → Nat} {n : Nat} (h8 : σ 37 8 = n) (hd : ∀ i j : Nat, i < j → j < n → ¬ σ 41 i = σ 41 j) (hpr : ∀ i : Nat, i < n → prP 3 (σ 41 i)) (hin : ∀ x : Int, 1 ≤ x → x ≤ 468 → ((∃ i : Nat, i < n ∧ σ 41 i = x) ↔ ∃ c : Nat, c < 8 ∧ g x c)) (hcell : ∀ x : Int, 1 ≤ x → x ≤ 468 → cellN (σ 42 x.toNat) (g x) (K x)) (hK : ∀ x c, c < 8 → g x c → 0 ≤ K x ∧ K x ≤ 5) (hct : ∀ (x : Int) (M : Nat), M < 256 → (∀ c : Nat, c < 8 → (M.testBit c = true ↔ g x c)) → cl (fun c => M.testBit c) 8 = ct x) : ∀ k : Nat, k ≤ n → ∃ b most kind σk, Rch (fun a : (Int × Int × Int × Int × Sg) => L_X3_seekMost_88 a.1 a.2.1 a.2.2.1 a.2.2.2.1 a.2.2.2.2) k (-1, 0, -1, 0, σ) (b, most, kind, (k : Int), σk) ∧ BestAt σ K ct k b most kind σk
  | 0, _ => ⟨-1, 0, -1, σ, Rch.nil, FrL.rfl', rfl, rfl, fun j hj => by omega, fun y y1 _ => rfl, Or.inl ⟨rfl, rfl, rfl⟩⟩
  | k + 1, hk => by
    obtain ⟨b, most, kind, σk, e1, e2⟩ := best_lk h8 hd hpr hin hcell hK hct k (by omega)
    obtain ⟨b', most', kind', σ', u1, u2⟩ := best_s h8 hd hpr hin hcell hK hct (by omega) e2
    exact ⟨b', most', kind', σ', e1.snoc u1, u2⟩
