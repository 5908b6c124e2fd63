/-! the class: patterns and cases against what is known -/
def CtxK (σ0 τ : Sg) (P : Pth) : Prop := RP σ0 τ ∧ RM σ0 τ ∧ WFK (τ 1) (τ 2) (τ 3) ∧ WFW τ ∧ KP τ P ∧ KNo σ0 P
def TryAt (τ σ0 : Sg) (P : Pth) (n : Nat) : Prop := ∀ (p : Nat) (pl lev : Int) (x : XS) (σ : Sg), okP τ (hk P) p pl → 1 ≤ pl → τ 14 p ≤ n → 0 ≤ lev → lev + τ 14 p ≤ 41 → KR σ0 (.inl true, x) σ → ∃ σ', F_X3_tryAt n p pl lev σ = some (codeK (mt τ (envK P) n p pl x).1, σ') ∧ KR σ0 (mt τ (envK P) n p pl x) σ'
theorem KR.ask {σ0 σ : Sg} {x : XS} {a b c : Int} (h : KR σ0 (.inl true, x) σ) : KR σ0 (.inr (a, b, c), x) (up2 (up2 (up2 σ 37 5 a) 37 6 b) 37 7 c) := by
  obtain ⟨h1, h2, h3⟩ := h
  refine ⟨h1.next, fun i hi => by rw [up2_row (by omega), up2_row (by omega), up2_row (by omega)]; exact h2 i hi, fun q hq => ?_⟩
  have : (a, b, c) = q := Sum.inr.inj hq
  rw [← this]
  exact setNext_at
theorem KR.no {σ0 σ : Sg} {x : XS} (h : KR σ0 (.inl true, x) σ) : KR σ0 (.inl false, x) σ := ⟨h.1, h.2.1, fun a q => by cases q⟩
theorem KR.go {σ0 σ : Sg} {r : Res} (h : KR σ0 r σ) {b : Bool} : KR σ0 (.inl b, r.2) σ := ⟨h.1, h.2.1, fun a q => by cases q⟩
set_option maxHeartbeats 4000000 in
theorem tryHead_cl {σ0 τ : Sg} {P : Pth} (hC : CtxK σ0 τ P) {n : Nat} (ih : TryAt τ σ0 P n) (p : Nat) (pl lev : Int) (x : XS) (σ : Sg) (ho : okP τ (hk P) p pl) (hpl : 1 ≤ pl) (hn : τ 14 p ≤ n + 1) (hl : 0 ≤ lev) (hl2 : lev + τ 14 p ≤ 41) (hx : KR σ0 (.inl true, x) σ) (c0 : ¬ τ 8 p = 0) (c1 : ¬ τ 8 p = 1) (c4 : ¬ τ 8 p = 4) (c5 : ¬ τ 8 p = 5) : ∃ σ', G_X3_tryHead (F_X3_tryAt n) p pl lev σ = some (codeK (mtG τ (envK P) (mt τ (envK P) n) p pl x).1, σ') ∧ KR σ0 (mtG τ (envK P) (mt τ (envK P) n) p pl x) σ' := by
  obtain ⟨hP0, hM0, hF, hWW, hKP, hKN⟩ := id hC
  have hW := hP0.2.1
  have hM := hM0.2.2.2.1
  have hH := hKP.hok hF hM
  have hp := ho.1
  have hge := hW.ge hp
  have hform := hW.form hp
  have h468 := PB_468 (d := τ 13 p)
  have hg : 1 ≤ pl ∧ pl ≤ 468 ∧ 0 ≤ kd τ (hk P) pl ∧ (τ 12 p = -1 ∨ τ 12 p = kd τ (hk P) pl) := by
    rcases ho.2 with g | g
    · omega
    · exact ⟨g.1, by omega, g.2.2⟩
  have hRP := hx.1.rp hF hP0
  have hkn := hx.1.kn hKN
  have h38 := hkn.1 pl.toNat (by omega) (by omega)
  rw [show ((pl.toNat : Nat) : Int) = pl by omega] at h38
  have hfe : factE (envK P) pl = hk P pl := by unfold factE; rw [if_neg (by omega)]; rfl
  unfold G_X3_tryHead mtG
  rw [if_neg c0, if_neg c1, if_neg c4, if_neg c5, hfe, rdD_ok (by omega) (by omega), h38, bnd_eq]
  unfold un9
  by_cases c9 : hk P pl = -9
  · rw [if_pos c9, if_pos c9, if_pos rfl, kindOf5 hRP ⟨by omega, hp⟩]
    unfold F_X3_ask
    rw [bnd_eq, setNext_c, bnd_eq, show ((p : Nat) : Int).toNat = p by omega]
    exact ⟨_, rfl, hx.ask⟩
  · obtain ⟨o1, o2, o3, o4⟩ := hH pl hpl hg.2.1 hg.2.2.1 c9
    rw [if_neg c9, if_neg c9, if_neg (by omega)]
    have h36 : τ 8 p = 6 → hk P pl ≤ 3 := fun q => o3 (by
      have := (hW.g6 hp q).2.2.1
      omega)
    rw [accepts_c (f := hk P pl) hRP hp o1 h36 (by omega)]
    by_cases cr : isR τ p (hk P pl) = true
    · rw [if_pos cr, if_pos cr, bnd_eq, offset_c hRP hp ⟨o1, o2⟩]
      obtain ⟨pc0, pc3, pcs⟩ := pc_spec hW hF hp
      obtain ⟨m, hm⟩ : ∃ m : Nat, pcOf τ p = m := ⟨(pcOf τ p).toNat, by omega⟩
      rw [partsL_run hW hF hp hm]
      have hend : ∀ (y : XS) (s : Sg), KR σ0 (.inl true, y) s → L_X3_tryHead_61 (F_X3_tryAt n) p pl lev (skipE τ p (hk P pl)) m s = some (.inr (.inl s)) := fun y s hs => by
        unfold L_X3_tryHead_61
        rw [partCount5 (hs.1.rp hF hP0) hp, hm, if_pos (Int.le_refl _)]
      have hstep : ∀ (k : Nat) (y : XS) (s : Sg), k < m → KR σ0 (.inl true, y) s → ∃ s', L_X3_tryHead_61 (F_X3_tryAt n) p pl lev (skipE τ p (hk P pl)) k s = some (if codeK (mt τ (envK P) n (itm τ p pl (hk P pl) k).1 (itm τ p pl (hk P pl) k).2 y).1 = 1 then .inl ((k : Int) + 1, s') else .inr (.inr (codeK (mt τ (envK P) n (itm τ p pl (hk P pl) k).1 (itm τ p pl (hk P pl) k).2 y).1, s'))) ∧ KR σ0 (mt τ (envK P) n (itm τ p pl (hk P pl) k).1 (itm τ p pl (hk P pl) k).2 y) s' := fun k y s hkm hs => by
        have k3 : k < 3 := by omega
        have kn : ¬ prt τ p k = -1 := fun q => by have := (pcs k k3).mp q; omega
        have hb := hW.pb hp k3
        obtain ⟨-, -, hsz⟩ := sz_part hW hp k3 kn
        have hsk := skip_b hW hp h36 cr k3 kn
        have hmem : itm τ p pl (hk P pl) k ∈ partsL τ p pl (hk P pl) := by
          rw [partsL_run hW hF hp hm]
          exact runL_mem (by omega) (by omega)
        have hok2 := ho.parts hW hF hH c0 c1 c4 c5 hpl c9 cr _ hmem
        have e2i : (itm τ p pl (hk P pl) k).2 = 5 * pl + (skipE τ p (hk P pl) + k) + 1 := by unfold itm; dsimp only; omega
        have e1i : (((itm τ p pl (hk P pl) k).1 : Nat) : Int) = prt τ p k := by unfold itm; dsimp only; omega
        obtain ⟨s', u1, u2⟩ := ih (itm τ p pl (hk P pl) k).1 (itm τ p pl (hk P pl) k).2 (lev + 1) y s hok2 (by rw [e2i]; omega) (by unfold itm; dsimp only; omega) (by omega) (by unfold itm; dsimp only; omega) hs
        rw [e1i] at u1
        refine ⟨s', ?_, u2⟩
        generalize mt τ (envK P) n (itm τ p pl (hk P pl) k).1 (itm τ p pl (hk P pl) k).2 y = r at *
        unfold L_X3_tryHead_61
        rw [partCount5 (hs.1.rp hF hP0) hp, hm, if_neg (by omega), partOf5 (hs.1.rp hF hP0) hp k3, wrap_id (z := skipE τ p (hk P pl) + k) (by omega) (by omega), inner_c ⟨by omega, by omega⟩ ⟨by omega, by omega⟩, ← e2i, wrap_id (z := lev + 1) (by omega) (by omega), u1, Option.bind_some]
        clear u1
        dsimp only
        by_cases g : codeK r.1 = 1
        · rw [if_pos g, if_pos g, wrap_id (by omega) (by omega)]
        · rw [if_neg g, if_neg g]
      obtain ⟨σ', r1, r2⟩ := loopK (f := fun a : (Int × Sg) => L_X3_tryHead_61 (F_X3_tryAt n) p pl lev (skipE τ p (hk P pl)) a.1 a.2) (F := mt τ (envK P) n) (it := itm τ p pl (hk P pl)) (m := m) (Q := KR σ0) hend hstep m 0 3000 x σ (by omega) (by omega) hx
      refine ⟨σ', ?_, r2⟩
      have r1' : iter (fun a : (Int × Sg) => L_X3_tryHead_61 (F_X3_tryAt n) p pl lev (skipE τ p (hk P pl)) a.1 a.2) 3000 (0, σ) = some (if codeK (seqM (mt τ (envK P) n) (runL (itm τ p pl (hk P pl)) m 0) x).1 = 1 then .inl σ' else .inr (codeK (seqM (mt τ (envK P) n) (runL (itm τ p pl (hk P pl)) m 0) x).1, σ')) := r1
      rw [r1', Option.bind_some]
      show Sum.elim _ _ _ = some (codeK (seqM (mt τ (envK P) n) (runL (itm τ p pl (hk P pl)) m 0) x).1, σ')
      by_cases g : codeK (seqM (mt τ (envK P) n) (runL (itm τ p pl (hk P pl)) m 0) x).1 = 1
      · rw [if_pos g, Sum.elim_inl, g]
      · rw [if_neg g, Sum.elim_inr]
    · rw [if_neg cr, if_neg cr]
      exact ⟨σ, rfl, hx.no⟩
set_option maxHeartbeats 4000000 in
theorem tryAt_cl {σ0 τ : Sg} {P : Pth} (hC : CtxK σ0 τ P) : ∀ n, TryAt τ σ0 P n
  | 0 => fun p pl lev x σ ho _ hn _ _ _ => by have := hC.1.2.1.ge ho.1; omega
  | n + 1 => fun p pl lev x σ ho hpl hn hl hl2 hx => by
    have ih := tryAt_cl hC n
    obtain ⟨hP0, hM0, hF, hWW, hKP, hKN⟩ := id hC
    have hW := hP0.2.1
    have hM := hM0.2.2.2.1
    have hV := hKP.vok hWW
    have hp := ho.1
    have hge := hW.ge hp
    have hform := hW.form hp
    have hRP := hx.1.rp hF hP0
    have hnn : τ 14 p ≤ n + 1 := by omega
    show ∃ σ', G_X3_tryAt (F_X3_tryAt n) p pl lev σ = some (codeK (mtG τ (envK P) (mt τ (envK P) n) p pl x).1, σ') ∧ KR σ0 (mtG τ (envK P) (mt τ (envK P) n) p pl x) σ'
    unfold G_X3_tryAt
    rw [if_pos (show lev ≤ 40 by omega), sortOf5 hRP hp]
    by_cases c0 : τ 8 p = 0
    · unfold mtG
      rw [if_pos (show sortOf τ p = 0 by unfold sortOf; rw [if_neg (by omega)]; exact c0), if_pos c0]
      exact ⟨σ, rfl, hx⟩
    by_cases c1 : τ 8 p = 1
    · obtain ⟨g1, g2, -⟩ := hW.g1 hp c1
      have hb := hW.pb hp (k := 0) (by omega)
      obtain ⟨-, -, hsz⟩ := sz_part hW hp (k := 0) (by omega) (by omega)
      have hlow : lowOf τ p = τ 9 p := by unfold lowOf; rw [if_neg (by omega)]
      have hx1 : KR σ0 (.inl true, bindX x (τ 9 p) pl) (up2 σ 40 (τ 9 p).toNat pl) := by
        obtain ⟨h1, h2, h3⟩ := hx
        refine ⟨⟨fun r r1 r2 => by rw [← h1.1 r r1 r2]; funext j; rw [up2_row r2], fun i i1 i2 i3 => by rw [up2_row (by omega)]; exact h1.2 i i1 i2 i3⟩, fun i hi => ?_, fun a q => by cases q⟩
        show up2 σ 40 (τ 9 p).toNat pl 40 i = if i = (τ 9 p).toNat then pl else x.1 i
        by_cases c : i = (τ 9 p).toNat
        · rw [if_pos c, up2_at rfl c]
        · rw [if_neg c, up2_idx c]; exact h2 i hi
      obtain ⟨σ', u1, u2⟩ := ih (prt τ p 0).toNat pl (lev + 1) _ _ (ho.name hW c1) hpl (by omega) (by omega) (by omega) hx1
      rw [show (((prt τ p 0).toNat : Nat) : Int) = prt τ p 0 by omega] at u1
      unfold mtG
      rw [show sortOf τ p = 1 by unfold sortOf; rw [if_neg (by omega)]; exact c1, if_neg (by decide), if_pos rfl, if_neg c0, if_pos c1, lowOf5 hRP hp, hlow, wrD_ok g1.1 (by omega), bnd_eq, show F_X5_partOf p 0 (up2 σ 40 (τ 9 p).toNat pl) = prt τ p 0 from partOf5 (k := 0) (hx1.1.rp hF hP0) hp (by decide), wrap_id (by omega) (by omega), u1, Option.bind_some]
      exact ⟨σ', rfl, u2⟩
    by_cases c4 : τ 8 p = 4
    · obtain ⟨g0, g1, -⟩ := hW.g4 hp c4
      have b0 := hW.pb hp (k := 0) (by omega)
      have b1 := hW.pb hp (k := 1) (by omega)
      obtain ⟨-, -, z0⟩ := sz_part hW hp (k := 0) (by omega) (by omega)
      obtain ⟨-, -, z1⟩ := sz_part hW hp (k := 1) (by omega) (by omega)
      obtain ⟨σ1, q1, q2⟩ := ih (prt τ p 0).toNat pl (lev + 1) x σ (ho.alt hW c4 (k := 0) (by omega)) hpl (by omega) (by omega) (by omega) hx
      rw [show (((prt τ p 0).toNat : Nat) : Int) = prt τ p 0 by omega] at q1
      unfold mtG
      rw [show sortOf τ p = 4 by unfold sortOf; rw [if_neg (by omega)]; exact c4, if_neg (by decide), if_neg (by decide), if_pos rfl, if_neg c0, if_neg c1, if_pos c4, show F_X5_partOf p 0 σ = prt τ p 0 from partOf5 (k := 0) hRP hp (by decide), wrap_id (by omega) (by omega), q1, Option.bind_some]
      clear q1
      dsimp only
      by_cases g : (mt τ (envK P) n (prt τ p 0).toNat pl x).1 = .inl false
      · obtain ⟨σ2, u1, u2⟩ := ih (prt τ p 1).toNat pl (lev + 1) _ σ1 (ho.alt hW c4 (k := 1) (by omega)) hpl (by omega) (by omega) (by omega) (q2.go (b := true))
        rw [show (((prt τ p 1).toNat : Nat) : Int) = prt τ p 1 by omega] at u1
        rw [if_pos (show codeK (mt τ (envK P) n (prt τ p 0).toNat pl x).1 = 0 by rw [g]; rfl), if_pos g, show F_X5_partOf p 1 σ1 = prt τ p 1 from partOf5 (k := 1) (q2.1.rp hF hP0) hp (by decide), u1, Option.bind_some]
        exact ⟨σ2, rfl, u2⟩
      · rw [if_neg (fun z => g (by
          generalize (mt τ (envK P) n (prt τ p 0).toNat pl x).1 = r at z
          cases r with
          | inl b => cases b with
            | true => exact absurd z (by decide)
            | false => rfl
          | inr a => exact absurd z (by show ¬ (2 : Int) = 0; omega))), if_neg g]
        exact ⟨σ1, rfl, q2⟩
    by_cases c5 : τ 8 p = 5
    · obtain ⟨g1, g2, g3, g4, g5, g6, g7⟩ := hW.g5 hp c5
      have b0 := hW.pb hp (k := 0) (by omega)
      obtain ⟨-, -, z0⟩ := sz_part hW hp (k := 0) (by omega) (by omega)
      have hlow : lowOf τ p = τ 9 p := by unfold lowOf; rw [if_neg (by omega)]
      have hop := ho.pl (by omega)
      have hget := (hx.1.kn hKN).2.1.get (v := τ 9 p) (pl := pl) g1 ⟨hpl, hop.2.1⟩
      unfold mtG
      rw [show sortOf τ p = 5 by unfold sortOf; rw [if_neg (by omega)]; exact c5, if_neg (by decide), if_neg (by decide), if_neg (by decide), if_pos rfl, if_neg c0, if_neg c1, if_neg c4, if_pos c5, lowOf5 hRP hp, hlow, bnd_eq, hget, bnd_eq]
      clear hget
      show ∃ σ', (if un9 (vk P (τ 9 p) pl) = -1 then _ else _) = some (codeK (if vk P (τ 9 p) pl = -9 then ((.inr (4, pl, τ 9 p), x) : Res) else mt τ (envK P) n (prt τ p 0).toNat (-1 - vk P (τ 9 p) pl) x).1, σ') ∧ KR σ0 (if vk P (τ 9 p) pl = -9 then ((.inr (4, pl, τ 9 p), x) : Res) else mt τ (envK P) n (prt τ p 0).toNat (-1 - vk P (τ 9 p) pl) x) σ'
      by_cases c9 : vk P (τ 9 p) pl = -9
      · rw [if_pos (show un9 (vk P (τ 9 p) pl) = -1 by unfold un9; rw [if_pos c9]), if_pos c9]
        unfold F_X3_ask
        rw [bnd_eq, setNext_c, bnd_eq]
        exact ⟨_, rfl, hx.ask⟩
      · have hv : 0 ≤ vk P (τ 9 p) pl ∧ vk P (τ 9 p) pl ≤ 9 := (hV (τ 9 p) pl).resolve_left c9
        have hu : un9 (vk P (τ 9 p) pl) = vk P (τ 9 p) pl := by unfold un9; rw [if_neg c9]
        have had := admits_c (p := (prt τ p 0).toNat) (d := vk P (τ 9 p) pl) hRP (by omega) g7 hv
        rw [show (((prt τ p 0).toNat : Nat) : Int) = prt τ p 0 by omega] at had
        rw [hu, if_neg (by omega), if_neg c9, show F_X5_partOf p 0 σ = prt τ p 0 from partOf5 (k := 0) hRP hp (by decide), had, mt_bare hW n ((prt τ p 0).toNat + 1) (prt τ p 0).toNat _ x (by omega) g7 hv.1 (by omega) (by omega)]
        cases bareM τ ((prt τ p 0).toNat + 1) (prt τ p 0).toNat (vk P (τ 9 p) pl) with
        | true => exact ⟨σ, by rw [if_pos rfl]; rfl, hx⟩
        | false => exact ⟨σ, by rw [if_neg (by simp)]; rfl, hx.no⟩
    · obtain ⟨σ', u1, u2⟩ := tryHead_cl hC ih p pl lev x σ ho hpl hnn hl hl2 hx c0 c1 c4 c5
      have hso : ¬ sortOf τ p = 0 ∧ ¬ sortOf τ p = 1 ∧ ¬ sortOf τ p = 4 ∧ ¬ sortOf τ p = 5 := by unfold sortOf; split <;> omega
      obtain ⟨s0, s1, s4, s5⟩ := hso
      rw [if_neg s0, if_neg s1, if_neg s4, if_neg s5]
      unfold B_X3_tryAt_203
      rw [u1, Option.bind_some]
      exact ⟨σ', rfl, u2⟩
set_option maxHeartbeats 4000000 in
theorem tryCase_cl {σ0 τ : Sg} {P : Pth} (hC : CtxK σ0 τ P) {c : Nat} {σ : Sg} (hc : (c : Int) < τ 0 23) (h : FrK σ0 σ) : ∃ σ', F_X3_tryCase c σ = some (codeK (tryK τ P c).1, σ') ∧ KR σ0 (tryK τ P c) σ' := by
  obtain ⟨hP0, hM0, hF, hWW, hKP, hKN⟩ := id hC
  have hW := hP0.2.1
  have hM := hM0.2.2.2.1
  have hm3 := hM.1
  obtain ⟨m, hm⟩ : ∃ m : Nat, τ 0 21 = m := ⟨(τ 0 21).toNat, by omega⟩
  have hx1 : KR σ0 (.inl true, clrX x00) (fillF σ 40 6 (-1)) :=
    ⟨⟨fun r r1 r2 => by rw [← h.1 r r1 r2]; funext j; exact fillF_row r2, fun i i1 i2 i3 => by rw [fillF_row (by omega)]; exact h.2 i i1 i2 i3⟩, fun i hi => fillF_at hi, fun a q => by cases q⟩
  have hend : ∀ (y : XS) (s : Sg), KR σ0 (.inl true, y) s → L_X3_tryCase_10 c m s = some (.inr (.inl s)) := fun y s hs => by
    unfold L_X3_tryCase_10 F_X4_columns
    rw [(hs.1.rm hM0).1, hm, if_pos (Int.le_refl _)]
  have hstep : ∀ (k : Nat) (y : XS) (s : Sg), k < m → KR σ0 (.inl true, y) s → ∃ s', L_X3_tryCase_10 c k s = some (if codeK (mt τ (envK P) 60 (citm τ c k).1 (citm τ c k).2 y).1 = 1 then .inl ((k : Int) + 1, s') else .inr (.inr (codeK (mt τ (envK P) 60 (citm τ c k).1 (citm τ c k).2 y).1, s'))) ∧ KR σ0 (mt τ (envK P) 60 (citm τ c k).1 (citm τ c k).2 y) s' := fun k y s hkm hs => by
    have hmem : citm τ c k ∈ colsL τ c := by rw [colsL_run hM hm]; exact runL_mem (by omega) (by omega)
    have hok := cols_ok (H := hk P) hM hc _ hmem
    have hge := hW.ge hok.1
    have hff := ((hM.2.2.2.2 c hc).1 k (by omega)).1 (by omega)
    have hk0 := hff.1
    have e1i : (((citm τ c k).1 : Nat) : Int) = cpt τ c k := by unfold citm; dsimp only; omega
    obtain ⟨s', u1, u2⟩ := tryAt_cl hC 50 (citm τ c k).1 (citm τ c k).2 0 y s hok (by show 1 ≤ (k : Int) + 1; omega) (by omega) (by omega) (by omega) hs
    rw [mt_fuel hW 50 60 _ _ _ hok.1 (by omega) (by omega)] at u1 u2
    rw [e1i] at u1
    have u1' : F_X3_tryAt 50 (cpt τ c k) ((k : Int) + 1) 0 s = some (codeK (mt τ (envK P) 60 (citm τ c k).1 (citm τ c k).2 y).1, s') := u1
    clear u1
    refine ⟨s', ?_, u2⟩
    generalize mt τ (envK P) 60 (citm τ c k).1 (citm τ c k).2 y = r at *
    unfold L_X3_tryCase_10 F_X4_columns
    rw [(hs.1.rm hM0).1, hm, if_neg (by omega), get4c (hs.1.rm hM0) hc (by omega), wrap_id (by omega) (by omega), u1', Option.bind_some]
    clear u1'
    dsimp only
    by_cases g : codeK r.1 = 1
    · rw [if_pos g, if_pos g]
    · rw [if_neg g, if_neg g]
  obtain ⟨σ', r1, r2⟩ := loopK (f := fun a : (Int × Sg) => L_X3_tryCase_10 c a.1 a.2) (F := mt τ (envK P) 60) (it := citm τ c) (m := m) (Q := KR σ0) hend hstep m 0 3000 (clrX x00) (fillF σ 40 6 (-1)) (by omega) (by omega) hx1
  have et : tryK τ P c = seqM (mt τ (envK P) 60) (runL (citm τ c) m 0) (clrX x00) := by
    unfold tryK tryS; rw [colsL_run hM hm]
  rw [et]
  refine ⟨σ', ?_, r2⟩
  have r1' : iter (fun a : (Int × Sg) => L_X3_tryCase_10 c a.1 a.2) 3000 (0, fillF σ 40 6 (-1)) = some (if codeK (seqM (mt τ (envK P) 60) (runL (citm τ c) m 0) (clrX x00)).1 = 1 then .inl σ' else .inr (codeK (seqM (mt τ (envK P) 60) (runL (citm τ c) m 0) (clrX x00)).1, σ')) := r1
  unfold F_X3_tryCase
  rw [bnd_eq, r1', Option.bind_some]
  generalize (seqM (mt τ (envK P) 60) (runL (citm τ c) m 0) (clrX x00)).1 = r
  by_cases g : codeK r = 1
  · rw [if_pos g, Sum.elim_inl, g]
  · rw [if_neg g, Sum.elim_inr]
