/-! the places that a pattern needs, marked -/
theorem nd_fuel {τ : Sg} {P : Pth} (hW : WFP τ) : ∀ (n m p : Nat) (pl : Int), (p : Int) < τ 0 9 → τ 14 p ≤ n → τ 14 p ≤ m → nd τ P n p pl = nd τ P m p pl
  | 0, m, p, pl, hp, h1, h2 => by have := hW.ge hp; omega
  | n + 1, 0, p, pl, hp, h1, h2 => by have := hW.ge hp; omega
  | n + 1, m + 1, p, pl, hp, h1, h2 => by
    show ndG τ P (nd τ P n) p pl = ndG τ P (nd τ P m) p pl
    have hq : ∀ k : Nat, k < 3 → ¬ prt τ p k = -1 → ∀ q, nd τ P n (prt τ p k).toNat q = nd τ P m (prt τ p k).toNat q := fun k k3 kn q => by
      obtain ⟨z1, z2, z3⟩ := sz_part hW hp k3 kn
      exact nd_fuel hW n m _ q (by omega) (by omega) (by omega)
    unfold ndG
    by_cases c0 : τ 8 p = 0 ∨ τ 8 p = 5
    · rw [if_pos c0, if_pos c0]
    rw [if_neg c0, if_neg c0]
    by_cases c1 : τ 8 p = 1
    · rw [if_pos c1, if_pos c1, hq 0 (by omega) (by have := (hW.g1 hp c1).2.1; omega)]
    rw [if_neg c1, if_neg c1]
    by_cases c4 : τ 8 p = 4
    · obtain ⟨g0, g1, -⟩ := hW.g4 hp c4
      rw [if_pos c4, if_pos c4, hq 0 (by omega) (by omega), hq 1 (by omega) (by omega)]
    rw [if_neg c4, if_neg c4]
    by_cases c9 : hk P pl = -9
    · rw [if_pos c9, if_pos c9]
    rw [if_neg c9, if_neg c9]
    by_cases cr : isR τ p (hk P pl) = true
    · rw [if_pos cr, if_pos cr]
      exact flat_congr (fun q hq2 => by
        obtain ⟨z1, z2, z3⟩ := parts_lt hW hp hq2
        exact nd_fuel hW n m _ _ z1 (by omega) (by omega))
    · rw [if_neg cr, if_neg cr]
/-- a loop over parts or columns that collects places -/
theorem loopN {f : Int × Sg → Option ((Int × Sg) ⊕ Sg)} {G : Nat → Int → List Int} {it : Nat → Nat × Int} {m : Nat} {Q : (Int → Prop) → Sg → Prop} (hQ : ∀ (D D' : Int → Prop) σ, (∀ x, D x ↔ D' x) → Q D σ → Q D' σ) (he : ∀ D σ, Q D σ → f ((m : Int), σ) = some (.inr σ)) (hs : ∀ (k : Nat) (D : Int → Prop) (σ : Sg), k < m → Q D σ → ∃ σ', f ((k : Int), σ) = some (.inl ((k : Int) + 1, σ')) ∧ Q (fun x => D x ∨ x ∈ G (it k).1 (it k).2) σ') : ∀ (d k n : Nat) (D : Int → Prop) (σ : Sg), k + d = m → d < n → Q D σ → ∃ σ', iter f n ((k : Int), σ) = some σ' ∧ Q (fun x => D x ∨ x ∈ (runL it d k).flatMap (fun q => G q.1 q.2)) σ'
  | 0, k, n, D, σ, hk, hn, hq => by
    obtain ⟨n, rfl⟩ : ∃ z, n = z + 1 := ⟨n - 1, by omega⟩
    have : k = m := by omega
    refine ⟨σ, by rw [this, iter_r (he D σ hq)], hQ D _ σ (fun x => ?_) hq⟩
    unfold runL
    simp
  | d + 1, k, n, D, σ, hk, hn, hq => by
    obtain ⟨n, rfl⟩ : ∃ z, n = z + 1 := ⟨n - 1, by omega⟩
    obtain ⟨σ1, e1, e2⟩ := hs k D σ (by omega) hq
    obtain ⟨σ2, e3, e4⟩ := loopN hQ he hs d (k + 1) n _ σ1 (by omega) (by omega) e2
    refine ⟨σ2, ?_, hQ _ _ σ2 (fun x => ?_) e4⟩
    · rw [iter_l e1, show (k : Int) + 1 = ((k + 1 : Nat) : Int) by omega]
      exact e3
    · show (D x ∨ x ∈ G (it k).1 (it k).2) ∨ _ ↔ _
      rw [show runL it (d + 1) k = it k :: runL it d (k + 1) from rfl, List.flatMap_cons, List.mem_append, or_assoc]
def NQ (σ0 : Sg) (c : Nat) (g : Int → Nat → Prop) (K : Int → Int) (D : Int → Prop) (σ : Sg) : Prop := FrL σ0 σ ∧ NC σ (fun y j => g y j ∨ (j = c ∧ D y)) K
theorem NQ.iff {σ0 : Sg} {c : Nat} {g : Int → Nat → Prop} {K : Int → Int} {D D' : Int → Prop} {σ : Sg} (hD : ∀ x, D x ↔ D' x) (h : NQ σ0 c g K D σ) : NQ σ0 c g K D' σ :=
  ⟨h.1, h.2.iff (fun x j _ => by rw [hD x])⟩
def NeedAt (τ σ0 : Sg) (P : Pth) (c : Nat) (g : Int → Nat → Prop) (n : Nat) : Prop := ∀ (p : Nat) (pl lev : Int) (D : Int → Prop) (σ : Sg), okP τ (hk P) p pl → 1 ≤ pl → τ 14 p ≤ n → 0 ≤ lev → lev + τ 14 p ≤ 41 → NQ σ0 c g (kd τ (hk P)) D σ → ∃ σ', F_X3_need n p pl (jshl 1 (c : Int)) lev σ = some σ' ∧ NQ σ0 c g (kd τ (hk P)) (fun x => D x ∨ x ∈ nd τ P n p pl) σ'
/-- a pattern that holds a head is of a kind -/
theorem kind_b {τ : Sg} {p : Nat} (hW : WFP τ) (hp : (p : Int) < τ 0 9) (c0 : ¬ τ 8 p = 0) (c1 : ¬ τ 8 p = 1) (c4 : ¬ τ 8 p = 4) (c5 : ¬ τ 8 p = 5) : 0 ≤ τ 12 p ∧ τ 12 p ≤ 5 := by
  have hform := hW.form hp
  have : τ 8 p = 2 ∨ τ 8 p = 3 ∨ τ 8 p = 6 := by omega
  rcases this with q | q | q
  · have := (hW.g2 hp q).2.2.2.2.1; omega
  · obtain ⟨t, c, t4, _, _, z, _⟩ := hW.g3 hp q; omega
  · have := (hW.g6 hp q).2.2.1; omega
set_option maxHeartbeats 4000000 in
theorem needHead_k {σ0 τ : Sg} {P : Pth} {c : Nat} {g : Int → Nat → Prop} (hC : CtxK σ0 τ P) (h8 : c < 8) {n : Nat} (ih : NeedAt τ σ0 P c g n) (p : Nat) (pl lev : Int) (D : Int → Prop) (σ : Sg) (ho : okP τ (hk P) p pl) (hpl : 1 ≤ pl) (hn : τ 14 p ≤ n + 1) (hl : 0 ≤ lev) (hl2 : lev + τ 14 p ≤ 41) (hx : NQ σ0 c g (kd τ (hk P)) D σ) (c0 : ¬ τ 8 p = 0) (c1 : ¬ τ 8 p = 1) (c4 : ¬ τ 8 p = 4) (c5 : ¬ τ 8 p = 5) : ∃ σ', G_X3_needHead (F_X3_need n) p pl (jshl 1 (c : Int)) lev σ = some σ' ∧ NQ σ0 c g (kd τ (hk P)) (fun x => D x ∨ x ∈ ndG τ P (nd τ P n) p pl) σ' := by
  have hM := hC.2.1.2.2.2.1
  obtain ⟨hP0, -, hF, hWW, hKP, hKN⟩ := hx.1.ctx hC
  have hW := hP0.2.1
  have hH := hKP.hok hF hM
  have hp := ho.1
  have hge := hW.ge hp
  have hform := hW.form hp
  have h468 := PB_468 (d := τ 13 p)
  have hg : 1 ≤ pl ∧ pl ≤ 468 ∧ 0 ≤ kd τ (hk P) pl ∧ (τ 12 p = -1 ∨ τ 12 p = kd τ (hk P) pl) := by
    rcases ho.2 with q | q
    · omega
    · exact ⟨q.1, by omega, q.2.2⟩
  have h38 := hKN.1 pl.toNat (by omega) (by omega)
  rw [show ((pl.toNat : Nat) : Int) = pl by omega] at h38
  unfold G_X3_needHead ndG
  rw [if_neg (show ¬ (τ 8 p = 0 ∨ τ 8 p = 5) by omega), if_neg c1, if_neg c4, rdD_ok (by omega) (by omega), h38, bnd_eq]
  unfold un9
  by_cases c9 : hk P pl = -9
  · have hkb := kind_b hW hp c0 c1 c4 c5
    rw [if_pos c9, if_pos c9, if_pos rfl, kindOf5 hP0 ⟨by omega, hp⟩, show ((p : Nat) : Int).toNat = p by omega, bnd_eq]
    obtain ⟨m1, m2⟩ := mark_c (x := pl) (k := τ 12 p) hx.2 (kd_pr hF hH 3 pl hpl hg.2.1 hg.2.1 hg.2.2.1) (by omega) hkb h8
    refine ⟨_, rfl, hx.1.trans m1, m2.iff (fun x j _ => ?_)⟩
    dsimp only
    rw [List.mem_singleton]
    constructor
    · rintro ((z | ⟨z1, z2⟩) | ⟨z1, z2⟩)
      · exact Or.inl z
      · exact Or.inr ⟨z1, Or.inl z2⟩
      · exact Or.inr ⟨z1, Or.inr z2⟩
    · rintro (z | ⟨z1, z2 | z2⟩)
      · exact Or.inl (Or.inl z)
      · exact Or.inl (Or.inr ⟨z1, z2⟩)
      · exact Or.inr ⟨z1, z2⟩
  · obtain ⟨o1, o2, o3, o4⟩ := hH pl hpl hg.2.1 hg.2.2.1 c9
    rw [if_neg c9, if_neg c9, if_neg (by omega)]
    have h36 : τ 8 p = 6 → hk P pl ≤ 3 := fun q => o3 (by
      have := (hW.g6 hp q).2.2.1
      omega)
    rw [accepts_c (f := hk P pl) hP0 hp o1 h36 (by omega)]
    by_cases cr : isR τ p (hk P pl) = true
    · rw [if_pos cr, if_pos cr, offset_c hP0 hp ⟨o1, o2⟩, bnd_eq]
      obtain ⟨pc0, pc3, pcs⟩ := pc_spec hW hF hp
      obtain ⟨m, hm⟩ : ∃ m : Nat, pcOf τ p = m := ⟨(pcOf τ p).toNat, by omega⟩
      rw [partsL_run hW hF hp hm]
      have hend : ∀ (D : Int → Prop) (s : Sg), NQ σ0 c g (kd τ (hk P)) D s → L_X3_needHead_61 (F_X3_need n) p pl (jshl 1 (c : Int)) lev (skipE τ p (hk P pl)) m s = some (.inr s) := fun D s hs => by
        unfold L_X3_needHead_61
        rw [partCount5 (hs.1.ctx hC).1 hp, hm, if_pos (Int.le_refl _)]
      have hstep : ∀ (k : Nat) (D : Int → Prop) (s : Sg), k < m → NQ σ0 c g (kd τ (hk P)) D s → ∃ s', L_X3_needHead_61 (F_X3_need n) p pl (jshl 1 (c : Int)) lev (skipE τ p (hk P pl)) k s = some (.inl ((k : Int) + 1, s')) ∧ NQ σ0 c g (kd τ (hk P)) (fun x => D x ∨ x ∈ nd τ P n (itm τ p pl (hk P pl) k).1 (itm τ p pl (hk P pl) k).2) s' := fun k D s hkm hs => by
        have k3 : k < 3 := by omega
        have kn : ¬ prt τ p k = -1 := fun q => by have := (pcs k k3).mp q; omega
        have hb := hW.pb hp k3
        obtain ⟨-, -, hsz⟩ := sz_part hW hp k3 kn
        have hsk := skip_b hW hp h36 cr k3 kn
        have hmem : itm τ p pl (hk P pl) k ∈ partsL τ p pl (hk P pl) := by
          rw [partsL_run hW hF hp hm]
          exact runL_mem (by omega) (by omega)
        have hok2 := ho.parts hW hF hH c0 c1 c4 c5 hpl c9 cr _ hmem
        have e2i : (itm τ p pl (hk P pl) k).2 = 5 * pl + (skipE τ p (hk P pl) + k) + 1 := by unfold itm; dsimp only; omega
        have e1i : (((itm τ p pl (hk P pl) k).1 : Nat) : Int) = prt τ p k := by unfold itm; dsimp only; omega
        obtain ⟨s', u1, u2⟩ := ih (itm τ p pl (hk P pl) k).1 (itm τ p pl (hk P pl) k).2 (lev + 1) D s hok2 (by rw [e2i]; omega) (by unfold itm; dsimp only; omega) (by omega) (by unfold itm; dsimp only; omega) hs
        rw [e1i] at u1
        refine ⟨s', ?_, u2⟩
        clear u2
        unfold L_X3_needHead_61
        rw [partCount5 (hs.1.ctx hC).1 hp, hm, if_neg (by omega), partOf5 (hs.1.ctx hC).1 hp k3, wrap_id (z := skipE τ p (hk P pl) + k) (by omega) (by omega), inner_c ⟨by omega, by omega⟩ ⟨by omega, by omega⟩, ← e2i, wrap_id (z := lev + 1) (by omega) (by omega), u1, Option.bind_some, wrap_id (by omega) (by omega)]
      obtain ⟨σ', r1, r2⟩ := loopN (f := fun a : (Int × Sg) => L_X3_needHead_61 (F_X3_need n) p pl (jshl 1 (c : Int)) lev (skipE τ p (hk P pl)) a.1 a.2) (G := nd τ P n) (it := itm τ p pl (hk P pl)) (m := m) (Q := NQ σ0 c g (kd τ (hk P))) (fun D D' s hD hs => hs.iff hD) hend hstep m 0 3000 D σ (by omega) (by omega) hx
      refine ⟨σ', ?_, r2⟩
      have r1' : iter (fun a : (Int × Sg) => L_X3_needHead_61 (F_X3_need n) p pl (jshl 1 (c : Int)) lev (skipE τ p (hk P pl)) a.1 a.2) 3000 (0, σ) = some σ' := r1
      rw [r1', Option.bind_some]
    · rw [if_neg cr, if_neg cr]
      exact ⟨σ, rfl, hx.iff (fun x => by simp)⟩
set_option maxHeartbeats 4000000 in
theorem need_k {σ0 τ : Sg} {P : Pth} {c : Nat} {g : Int → Nat → Prop} (hC : CtxK σ0 τ P) (h8 : c < 8) : ∀ n, NeedAt τ σ0 P c g n
  | 0 => fun p pl lev D σ ho _ hn _ _ _ => by have := hC.1.2.1.ge ho.1; omega
  | n + 1 => fun p pl lev D σ ho hpl hn hl hl2 hx => by
    have ih := need_k hC h8 (g := g) n
    obtain ⟨hP0, -, hF, hWW, hKP, hKN⟩ := hx.1.ctx hC
    have hW := hP0.2.1
    have hp := ho.1
    have hge := hW.ge hp
    have hform := hW.form hp
    show ∃ σ', G_X3_need (F_X3_need n) p pl (jshl 1 (c : Int)) lev σ = some σ' ∧ NQ σ0 c g (kd τ (hk P)) (fun x => D x ∨ x ∈ ndG τ P (nd τ P n) p pl) σ'
    have h57 : ∀ m : Nat, pcOf τ p = m → (∀ k : Nat, k < m → ¬ prt τ p k = -1 ∧ okP τ (hk P) (prt τ p k).toNat pl) → m ≤ 3 → ∃ σ', B_X3_need_57 (F_X3_need n) p pl (jshl 1 (c : Int)) lev σ = some σ' ∧ NQ σ0 c g (kd τ (hk P)) (fun x => D x ∨ x ∈ (runL (fun k => ((prt τ p k).toNat, pl)) m 0).flatMap (fun q => nd τ P n q.1 q.2)) σ' := fun m hm hok m3 => by
      have hend : ∀ (D : Int → Prop) (s : Sg), NQ σ0 c g (kd τ (hk P)) D s → L_X3_need_60 (F_X3_need n) p pl (jshl 1 (c : Int)) lev m s = some (.inr s) := fun D s hs => by
        unfold L_X3_need_60
        rw [partCount5 (hs.1.ctx hC).1 hp, hm, if_pos (Int.le_refl _)]
      have hstep : ∀ (k : Nat) (D : Int → Prop) (s : Sg), k < m → NQ σ0 c g (kd τ (hk P)) D s → ∃ s', L_X3_need_60 (F_X3_need n) p pl (jshl 1 (c : Int)) lev k s = some (.inl ((k : Int) + 1, s')) ∧ NQ σ0 c g (kd τ (hk P)) (fun x => D x ∨ x ∈ nd τ P n (prt τ p k).toNat pl) s' := fun k D s hkm hs => by
        obtain ⟨kn, ko⟩ := hok k hkm
        obtain ⟨hb, -, hsz⟩ := sz_part hW hp (k := k) (by omega) kn
        obtain ⟨s', u1, u2⟩ := ih (prt τ p k).toNat pl (lev + 1) D s ko hpl (by omega) (by omega) (by omega) hs
        rw [show (((prt τ p k).toNat : Nat) : Int) = prt τ p k by omega] at u1
        refine ⟨s', ?_, u2⟩
        clear u2
        unfold L_X3_need_60
        rw [partCount5 (hs.1.ctx hC).1 hp, hm, if_neg (by omega), partOf5 (hs.1.ctx hC).1 hp (by omega), wrap_id (z := lev + 1) (by omega) (by omega), u1, Option.bind_some, wrap_id (by omega) (by omega)]
      obtain ⟨σ', r1, r2⟩ := loopN (f := fun a : (Int × Sg) => L_X3_need_60 (F_X3_need n) p pl (jshl 1 (c : Int)) lev a.1 a.2) (G := nd τ P n) (it := fun k => ((prt τ p k).toNat, pl)) (m := m) (Q := NQ σ0 c g (kd τ (hk P))) (fun D D' s hD hs => hs.iff hD) hend hstep m 0 3000 D σ (by omega) (by omega) hx
      refine ⟨σ', ?_, r2⟩
      unfold B_X3_need_57
      have r1' : iter (fun a : (Int × Sg) => L_X3_need_60 (F_X3_need n) p pl (jshl 1 (c : Int)) lev a.1 a.2) 3000 (0, σ) = some σ' := r1
      rw [r1', Option.bind_some]
    unfold G_X3_need
    rw [if_pos (show lev ≤ 40 by omega), sortOf5 hP0 hp]
    by_cases c0 : τ 8 p = 0
    · unfold ndG
      rw [if_pos (show sortOf τ p = 0 by unfold sortOf; rw [if_neg (by omega)]; exact c0), if_pos (Or.inl c0)]
      exact ⟨σ, rfl, hx.iff (fun x => by simp)⟩
    by_cases c1 : τ 8 p = 1
    · obtain ⟨g1, g2, g3, g4, -⟩ := hW.g1 hp c1
      have hpc : pcOf τ p = (1 : Nat) := by unfold pcOf; rw [if_neg (by omega), if_pos g3, if_pos g4]; rfl
      obtain ⟨σ', r1, r2⟩ := h57 1 hpc (fun k hk1 => by
        rw [show k = 0 by omega]
        exact ⟨by omega, ho.name hW c1⟩) (by omega)
      rw [show sortOf τ p = 1 by unfold sortOf; rw [if_neg (by omega)]; exact c1, if_neg (by decide), if_pos rfl]
      refine ⟨σ', r1, r2.iff (fun x => ?_)⟩
      unfold ndG
      rw [if_neg (by omega), if_pos c1]
      show D x ∨ x ∈ nd τ P n (prt τ p 0).toNat pl ++ [] ↔ _
      rw [List.append_nil]
    by_cases c4 : τ 8 p = 4
    · obtain ⟨g0, g1, g2, -⟩ := hW.g4 hp c4
      have hpc : pcOf τ p = (2 : Nat) := by unfold pcOf; rw [if_neg (by omega), if_neg (by omega), if_pos g2]; rfl
      obtain ⟨σ', r1, r2⟩ := h57 2 hpc (fun k hk1 => by
        have : k = 0 ∨ k = 1 := by omega
        rcases this with z | z
        · rw [z]; exact ⟨by omega, ho.alt hW c4 (k := 0) (by omega)⟩
        · rw [z]; exact ⟨by omega, ho.alt hW c4 (k := 1) (by omega)⟩) (by omega)
      rw [show sortOf τ p = 4 by unfold sortOf; rw [if_neg (by omega)]; exact c4, if_neg (by decide), if_neg (by decide), if_pos rfl]
      refine ⟨σ', r1, r2.iff (fun x => ?_)⟩
      unfold ndG
      rw [if_neg (by omega), if_neg c1, if_pos c4]
      show D x ∨ x ∈ nd τ P n (prt τ p 0).toNat pl ++ (nd τ P n (prt τ p 1).toNat pl ++ []) ↔ _
      rw [List.append_nil]
    by_cases c5 : τ 8 p = 5
    · unfold ndG
      rw [show sortOf τ p = 5 by unfold sortOf; rw [if_neg (by omega)]; exact c5, if_neg (by decide), if_neg (by decide), if_neg (by decide), if_pos rfl, if_pos (Or.inr c5)]
      exact ⟨σ, rfl, hx.iff (fun x => by simp)⟩
    · obtain ⟨σ', u1, u2⟩ := needHead_k hC h8 ih p pl lev D σ ho hpl (by omega) hl hl2 hx c0 c1 c4 c5
      have hso : ¬ sortOf τ p = 0 ∧ ¬ sortOf τ p = 1 ∧ ¬ sortOf τ p = 4 ∧ ¬ sortOf τ p = 5 := by unfold sortOf; split <;> omega
      obtain ⟨s0, s1, s4, s5⟩ := hso
      rw [if_neg s0, if_neg s1, if_neg s4, if_neg s5]
      unfold B_X3_need_100
      rw [u1, Option.bind_some]
      exact ⟨σ', rfl, u2⟩
