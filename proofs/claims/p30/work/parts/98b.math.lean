/-! the class's plain engine: a pattern -/
def CtxC (σ0 τ : Sg) : Prop := RK σ0 τ ∧ RV σ0 τ ∧ RP σ0 τ ∧ RW σ0 τ ∧ RM σ0 τ ∧ GV τ
theorem CtxC.rp {σ0 σ τ : Sg} (h : CtxC σ0 τ) (hs : FrC σ0 σ) : RP σ τ := RP.fr h.2.2.1 h.1.2.2.2 (fun r r1 r2 => hs.row (by omega)) (fun _ _ _ => rfl) rfl
theorem CtxC.rv {σ0 σ τ : Sg} (h : CtxC σ0 τ) (hs : FrC σ0 σ) : RV σ τ := h.2.1.fr (fun r r1 r2 => hs.row (by omega))
theorem CtxC.rw {σ0 σ τ : Sg} (h : CtxC σ0 τ) (hs : FrC σ0 σ) : RW σ τ := by
  obtain ⟨h1, h2⟩ := h.2.2.2.1
  exact ⟨fun i hi => by rw [hs.row (by omega)]; exact h1 i hi, h2⟩
theorem CtxC.hok {σ0 τ : Sg} (h : CtxC σ0 τ) : HOK τ (hdR τ) := HOK_R h.1.2.2.2 h.2.1.2.1 h.2.2.2.2.1.2.2.2.1 h.2.2.2.2.2
theorem okP.vR {τ : Sg} {p : Nat} {pl : Int} (h : okP τ (hdR τ) p pl) (hp : 1 ≤ pl) : vR τ pl := by
  rcases h.2 with g | g
  · omega
  · have := PB_468 (d := τ 13 p)
    exact ⟨hp, by omega, g.2.2.1⟩
theorem skip_b {τ : Sg} {p k : Nat} {f : Int} (hW : WFP τ) (hp : (p : Int) < τ 0 9) (h3 : τ 8 p = 6 → f ≤ 3) (hr : isR τ p f = true) (k3 : k < 3) (kn : ¬ prt τ p k = -1) : 0 ≤ skipE τ p f ∧ skipE τ p f + k ≤ 2 := by
  unfold skipE
  by_cases c : τ 8 p = 6 ∧ τ 10 p = 2
  · rw [if_pos c]
    obtain ⟨a1, a2, a3, a4, a5, a6⟩ := hW.g6 hp c.1
    have hk2 : k < 2 := by
      have : k = 0 ∨ k = 1 ∨ k = 2 := by omega
      rcases this with rfl | rfl | rfl
      · omega
      · omega
      · exact absurd a5 kn
    have hkm : (k : Int) < τ 9 p := Classical.byContradiction fun g => kn ((a6 k hk2).2 (by omega))
    unfold isR at hr
    rw [if_neg (by omega), if_neg (by omega), if_neg (by omega)] at hr
    have := of_decide_eq_true hr
    have := h3 c.1
    omega
  · rw [if_neg c]; omega
theorem fitsNumber_cl {σ0 τ : Sg} (hC : CtxC σ0 τ) : ∀ (n m p : Nat) (d lev : Int) (x : XS) (σ : Sg), (p : Int) < τ 0 9 → τ 17 p = 1 → (0 ≤ d ∧ d ≤ 9) → τ 14 p ≤ n → τ 14 p ≤ m → 0 ≤ lev → lev + τ 14 p ≤ 41 → CR σ0 x σ → ∃ b σ', F_X6_fitsNumber n p d lev σ = some (b, σ') ∧ (mt τ (envR τ) m p (-1 - d) x).1 = .inl b ∧ CR σ0 (mt τ (envR τ) m p (-1 - d) x).2 σ' ∧ (mt τ (envR τ) m p (-1 - d) x).2.2.2 = x.2.2 ∧ (mt τ (envR τ) m p (-1 - d) x).2.1 = x.1 ∧ ∀ r, ¬ r = 27 → σ' r = σ r
  | 0, m, p, d, lev, x, σ, hp, _, _, h1, _, _, _, _ => by have := hC.2.2.1.2.1.ge hp; omega
  | n, 0, p, d, lev, x, σ, hp, _, _, _, h1, _, _, _ => by have := hC.2.2.1.2.1.ge hp; omega
  | n + 1, m + 1, p, d, lev, x, σ, hp, hb, hd, h1, h2, hl, hl2, hx => by
    have hW := hC.2.2.1.2.1
    have hge := hW.ge hp
    have hRP := hC.rp hx.1
    have hs := sortOf5 hRP hp
    have hform := hW.form hp
    show ∃ b σ', G_X6_fitsNumber (F_X6_fitsNumber n) p d lev σ = some (b, σ') ∧ (mtG τ (envR τ) (mt τ (envR τ) m) p (-1 - d) x).1 = .inl b ∧ CR σ0 (mtG τ (envR τ) (mt τ (envR τ) m) p (-1 - d) x).2 σ' ∧ (mtG τ (envR τ) (mt τ (envR τ) m) p (-1 - d) x).2.2.2 = x.2.2 ∧ (mtG τ (envR τ) (mt τ (envR τ) m) p (-1 - d) x).2.1 = x.1 ∧ ∀ r, ¬ r = 27 → σ' r = σ r
    unfold G_X6_fitsNumber mtG
    rw [if_pos (by omega), hs]
    by_cases c0 : τ 8 p = 0
    · rw [if_pos (show sortOf τ p = 0 by unfold sortOf; rw [if_neg (by omega)]; exact c0), if_pos c0]
      exact ⟨true, σ, rfl, rfl, hx, rfl, rfl, fun _ _ => rfl⟩
    by_cases c4 : τ 8 p = 4
    · obtain ⟨g0, g1, -, -, -, -, g6⟩ := hW.g4 hp c4
      have bb := g6.mp hb
      clear g6
      have hs4 : sortOf τ p = 4 := by unfold sortOf; rw [if_neg (by omega)]; exact c4
      rw [hs4, if_neg (show ¬ (4 : Int) = 0 by decide), if_pos rfl]
      clear hs4 hs
      rw [if_neg c0, if_neg (by omega), if_pos c4]
      have b0 := hW.pb hp (k := 0) (by omega)
      have b1 := hW.pb hp (k := 1) (by omega)
      obtain ⟨-, -, z0⟩ := sz_part hW hp (k := 0) (by omega) (by omega)
      obtain ⟨-, -, z1⟩ := sz_part hW hp (k := 1) (by omega) (by omega)
      obtain ⟨b, σ1, q1, q2, q3, q4, q5, q6⟩ := fitsNumber_cl hC n m (prt τ p 0).toNat d (lev + 1) x σ (by omega) bb.1 hd (by omega) (by omega) (by omega) (by omega) hx
      rw [show (((prt τ p 0).toNat : Nat) : Int) = prt τ p 0 by omega] at q1
      rw [show F_X5_partOf p 0 σ = prt τ p 0 from partOf5 (k := 0) hRP hp (by decide), wrap_id (by omega) (by omega), q1, Option.bind_some]
      cases b with
      | true =>
        dsimp only
        rw [if_pos rfl, if_neg (by rw [q2]; simp)]
        exact ⟨true, σ1, rfl, q2, q3, q4, q5, q6⟩
      | false =>
        have hRP1 := hC.rp q3.1
        obtain ⟨b', σ2, u1, u2, u3, u4, u5, u6⟩ := fitsNumber_cl hC n m (prt τ p 1).toNat d (lev + 1) _ σ1 (by omega) bb.2 hd (by omega) (by omega) (by omega) (by omega) q3
        rw [show (((prt τ p 1).toNat : Nat) : Int) = prt τ p 1 by omega] at u1
        dsimp only
        rw [if_neg (by simp), if_pos q2, show F_X5_partOf p 1 σ1 = prt τ p 1 from partOf5 (k := 1) hRP1 hp (by decide), u1, Option.bind_some]
        refine ⟨b', σ2, ?_, u2, u3, by rw [u4, q4], by rw [u5, q5], fun r hr => by rw [u6 r hr, q6 r hr]⟩
        cases b' <;> rfl
    · have c2 : τ 8 p = 2 := by
        have a1 : ¬ τ 8 p = 1 := fun q => by have := (hW.g1 hp q).2.2.2.2.2; omega
        have a3 : ¬ τ 8 p = 3 := fun q => by obtain ⟨_, _, _, _, _, _, z, _⟩ := hW.g3 hp q; omega
        have a5 : ¬ τ 8 p = 5 := fun q => by have := (hW.g5 hp q).2.2.2.2.2.1; omega
        have a6 : ¬ τ 8 p = 6 := fun q => by have := (hW.g6 hp q).2.2.2.1; omega
        omega
      have hs2 : sortOf τ p = 2 := by unfold sortOf; rw [if_neg (by omega)]; exact c2
      have hfe : factE (envR τ) (-1 - d) = d := by unfold factE; rw [if_pos (by omega)]; omega
      obtain ⟨x1, x2⟩ := count_cl (τ := τ) hx
      have hac := accepts_c (σ := F_X1_countTest σ) (f := d) (hC.rp x1.1) hp hd.1 (fun q => by omega) (Or.inl c2)
      rw [hs2, if_neg (show ¬ (2 : Int) = 0 by decide), if_neg (show ¬ (2 : Int) = 4 by decide)]
      clear hs2 hs
      rw [if_neg c0, if_neg (by omega), if_neg c4, if_neg (by omega), hfe, if_neg (by omega), bnd_eq, hac]
      obtain ⟨-, g0, g1, g2, -⟩ := hW.g2 hp c2
      have hL : partsL τ p (-1 - d) d = [] := by unfold partsL part1; rw [if_pos g0, if_pos g1, if_pos g2]; rfl
      rw [hL]
      by_cases cr : isR τ p d = true
      · rw [if_pos cr, cr]
        exact ⟨true, _, rfl, rfl, x1, rfl, rfl, x2⟩
      · have cf : isR τ p d = false := by simpa using cr
        rw [if_neg cr, cf]
        exact ⟨false, _, rfl, rfl, x1, rfl, rfl, x2⟩
def PX (τ σ0 : Sg) (x : XS) (σ : Sg) : Prop := CR σ0 x σ ∧ JR x.2.2 ∧ BK τ x σ
def FitsAt (τ σ0 : Sg) (n : Nat) : Prop := ∀ (p : Nat) (pl lev : Int) (x : XS) (σ : Sg), okP τ (hdR τ) p pl → 1 ≤ pl → τ 14 p ≤ n → 0 ≤ lev → lev + τ 14 p ≤ 41 → PX τ σ0 x σ → Fk τ σ pl → ∃ b σ', F_X6_fitsAt n p pl lev σ = some (b, σ') ∧ (mt τ (envR τ) n p pl x).1 = .inl b ∧ PX τ σ0 (mt τ (envR τ) n p pl x).2 σ' ∧ Fmono τ σ σ'
theorem bind_cl {σ0 σ τ : Sg} {x : XS} {v pl : Int} (hx : PX τ σ0 x σ) (hv : 0 ≤ v ∧ v ≤ 5) (hp : vR τ pl) (hf : Fk τ σ pl) : PX τ σ0 (bindX x v pl) (F_X1_bind v pl σ) ∧ F_X1_bind v pl σ = up2 σ 31 v.toNat pl := by
  obtain ⟨⟨h1, h2, h3, h4, h5, h6⟩, hJ, hB⟩ := hx
  have e : F_X1_bind v pl σ = up2 σ 31 v.toNat pl := by unfold F_X1_bind; rw [wrD_ok hv.1 (by omega), bnd_eq]
  rw [e]
  refine ⟨⟨⟨h1.up (Or.inl (by decide)), fun i hi => ?_, by rw [up2_row (by omega)]; exact h3, by rw [up2_row (by omega)]; exact h4, rnc_congr (s := σ) (by funext j; rw [up2_row (by omega)]) h5, h6.congr (by funext j; rw [up2_row (by omega)])⟩, hJ, hB.bind (Fmono.row (by funext j; rw [up2_row (by omega)])) hp (by unfold Fk; rw [up2_row (by omega)]; exact hf)⟩, rfl⟩
  unfold bindX
  dsimp only
  by_cases c : i = v.toNat
  · rw [if_pos c, up2_at rfl c]
  · rw [if_neg c, up2_idx c]; exact h2 i hi
theorem inner_c {pl i : Int} (hp : 0 ≤ pl ∧ pl ≤ 468) (hi : 0 ≤ i ∧ i ≤ 9) : F_X10_inner pl i = 5 * pl + i + 1 := by
  unfold F_X10_inner
  rw [wrap_id (z := 5 * pl) (by omega) (by omega), wrap_id (z := 5 * pl + i) (by omega) (by omega), wrap_id (by omega) (by omega)]
set_option maxHeartbeats 4000000 in
theorem fitsHead_cl {σ0 τ : Sg} (hC : CtxC σ0 τ) {n : Nat} (ih : FitsAt τ σ0 n) (p : Nat) (pl lev : Int) (x : XS) (σ : Sg) (ho : okP τ (hdR τ) p pl) (hpl : 1 ≤ pl) (hn : τ 14 p ≤ n + 1) (hl : 0 ≤ lev) (hl2 : lev + τ 14 p ≤ 41) (hx : PX τ σ0 x σ) (hf : Fk τ σ pl) (c0 : ¬ τ 8 p = 0) (c1 : ¬ τ 8 p = 1) (c4 : ¬ τ 8 p = 4) (c5 : ¬ τ 8 p = 5) : ∃ b σ', G_X6_fitsHead (F_X6_fitsAt n) p pl lev σ = some (b, σ') ∧ (mtG τ (envR τ) (mt τ (envR τ) n) p pl x).1 = .inl b ∧ PX τ σ0 (mtG τ (envR τ) (mt τ (envR τ) n) p pl x).2 σ' ∧ Fmono τ σ σ' := by
  obtain ⟨hK, hV0, hP0, hW0, hM0, hG⟩ := id hC
  have hF := hK.2.2.2
  have hW := hP0.2.1
  have hM := hM0.2.2.2.1
  have hH := hC.hok
  have hp := ho.1
  have hge := hW.ge hp
  have hform := hW.form hp
  have hvr := ho.vR hpl
  obtain ⟨hcr, hJ, hB⟩ := hx
  have hRV := hC.rv hcr.1
  have hhead := headAt_k hF hRV hM hG hvr hf
  obtain ⟨x1, x2⟩ := count_cl (τ := τ) hcr
  have hok : ¬ hdR τ pl = -9 := by
    obtain ⟨b1, b2⟩ := va_ok hF hV0.2.1 hM hG pl.toNat pl (Nat.le_refl _) hpl hvr.2.2
    unfold hdR
    by_cases c : va τ pl < 0
    · have := (b1 c).2; rw [if_pos c]; omega
    · have := (hV0.2.1.2.2 (va τ pl).toNat (by have := (b2 (by omega)).1; omega)).2.2.2.2.1
      rw [if_neg c]; omega
  obtain ⟨o1, o2, o3, o4⟩ := hH pl hpl hvr.2.1 hvr.2.2 hok
  have h36 : τ 8 p = 6 → hdR τ pl ≤ 3 := fun q => o3 (by
    have := (hW.g6 hp q).2.2.1
    rcases ho.2 with g | g
    · omega
    · have := g.2.2.2; omega)
  have hac := accepts_c (σ := F_X1_countTest σ) (f := hdR τ pl) (hC.rp x1.1) hp o1 h36 (by omega)
  have hfe : factE (envR τ) pl = hdR τ pl := by unfold factE; rw [if_neg (by omega)]; rfl
  have hJ1 : JR ((envR τ).2.2 x).2.2 := hJ
  have m27 : Fmono τ σ (F_X1_countTest σ) := Fmono.row (x2 28 (by omega))
  have hB1 : BK τ ((envR τ).2.2 x) (F_X1_countTest σ) := hB.mono rfl m27
  have hf1 : Fk τ (F_X1_countTest σ) pl := m27 pl hvr hf
  unfold G_X6_fitsHead mtG
  rw [if_neg c0, if_neg c1, if_neg c4, if_neg c5, hfe, if_neg hok, hhead, bnd_eq, bnd_eq, hac]
  by_cases cr : isR τ p (hdR τ pl) = true
  · rw [if_pos cr, if_pos cr]
    obtain ⟨σ2, e1, e2, e3, e4⟩ := open_cl hF (hC.rv x1.1) hM hG hvr hf1
    have hcr2 : CR σ0 ((envR τ).2.2 x) σ2 := by
      obtain ⟨h1, h2, h3, h4, h5, h6⟩ := x1
      refine ⟨h1.same (fun r hr => e2 r (fun z => hr (by rw [z]; decide))) (fun i _ => by rw [e2 33 (by omega)]), fun i hi => by rw [e2 31 (by omega)]; exact h2 i hi, by rw [e2 27 (by omega)]; exact h3, by rw [e2 27 (by omega)]; exact h4, rnc_congr (e2 30 (by omega)) h5, h6.congr (e2 29 (by omega))⟩
    have hB2 : BK τ ((envR τ).2.2 x) σ2 := hB1.mono rfl e3
    have hRP2 := hC.rp hcr2.1
    rw [e1, Option.bind_some, bnd_eq, offset_c hRP2 hp ⟨o1, o2⟩]
    obtain ⟨pc0, pc3, pcs⟩ := pc_spec hW hF hp
    obtain ⟨m, hm⟩ : ∃ m : Nat, pcOf τ p = m := ⟨(pcOf τ p).toNat, by omega⟩
    rw [partsL_run hW hF hp hm]
    have hend : ∀ (y : XS) (s : Sg), PX τ σ0 y s ∧ Fmono τ σ2 s → L_X6_fitsHead_55 (F_X6_fitsAt n) p pl lev (skipE τ p (hdR τ pl)) m s = some (.inr (.inl s)) := fun y s hs => by
      unfold L_X6_fitsHead_55
      rw [partCount5 (hC.rp hs.1.1.1) hp, hm, if_pos (Int.le_refl _)]
    have hstep : ∀ (k : Nat) (y : XS) (s : Sg), k < m → PX τ σ0 y s ∧ Fmono τ σ2 s → ∃ b s', L_X6_fitsHead_55 (F_X6_fitsAt n) p pl lev (skipE τ p (hdR τ pl)) k s = some (if b = true then .inl ((k : Int) + 1, s') else .inr (.inr (false, s'))) ∧ (mt τ (envR τ) n (itm τ p pl (hdR τ pl) k).1 (itm τ p pl (hdR τ pl) k).2 y).1 = .inl b ∧ PX τ σ0 (mt τ (envR τ) n (itm τ p pl (hdR τ pl) k).1 (itm τ p pl (hdR τ pl) k).2 y).2 s' ∧ Fmono τ σ2 s' := fun k y s hk hP => by
      have k3 : k < 3 := by omega
      have kn : ¬ prt τ p k = -1 := fun q => by have := (pcs k k3).mp q; omega
      have hb := hW.pb hp k3
      obtain ⟨-, -, hsz⟩ := sz_part hW hp k3 kn
      have hsk := skip_b hW hp h36 cr k3 kn
      have hmem : itm τ p pl (hdR τ pl) k ∈ partsL τ p pl (hdR τ pl) := by
        rw [partsL_run hW hF hp hm]
        exact runL_mem (by omega) (by omega)
      have hok2 := ho.parts hW hF hH c0 c1 c4 c5 hpl hok cr _ hmem
      have e2i : (itm τ p pl (hdR τ pl) k).2 = 5 * pl + (skipE τ p (hdR τ pl) + k) + 1 := by unfold itm; dsimp only; omega
      have hvc := hok2.vR (by rw [e2i]; omega)
      have hfk := hP.2 _ hvc (by rw [e2i]; exact e4 _ (by omega) (by omega) (by rw [← e2i]; exact hvc))
      have hvr2 := hvr.2.1
      obtain ⟨b, s', u1, u2, u3, u4⟩ := ih (itm τ p pl (hdR τ pl) k).1 (itm τ p pl (hdR τ pl) k).2 (lev + 1) y s hok2 (by rw [e2i]; omega) (by show τ 14 (prt τ p k).toNat ≤ n; omega) (by omega) (by show lev + 1 + τ 14 (prt τ p k).toNat ≤ 41; omega) hP.1 hfk
      have u1' : F_X6_fitsAt n (prt τ p k) (5 * pl + (skipE τ p (hdR τ pl) + k) + 1) (lev + 1) s = some (b, s') := by
        rw [← e2i, ← u1]
        show _ = F_X6_fitsAt n (((prt τ p k).toNat : Nat) : Int) _ _ _
        rw [show (((prt τ p k).toNat : Nat) : Int) = prt τ p k by omega]
      clear u1
      have hpo : F_X5_partOf p k s = prt τ p k := partOf5 (hC.rp hP.1.1.1) hp k3
      have hpc : F_X5_partCount p s = pcOf τ p := partCount5 (hC.rp hP.1.1.1) hp
      refine ⟨b, s', ?_, u2, u3, hP.2.trans u4⟩
      unfold L_X6_fitsHead_55
      rw [hpc, hpo]
      clear hpc hpo
      rw [if_neg (by omega), wrap_id (z := skipE τ p (hdR τ pl) + k) (by omega) (by omega), inner_c ⟨by omega, hvr2⟩ ⟨by omega, by omega⟩, wrap_id (z := lev + 1) (by omega) (by omega), u1', Option.bind_some]
      dsimp only
      cases b with
      | true => rw [if_pos rfl, if_pos rfl, wrap_id (by omega) (by omega)]
      | false => rw [if_neg (by simp), if_neg (by simp)]
    obtain ⟨b, σ', r1, r2, r3⟩ := loopB' (f := fun a : (Int × Sg) => L_X6_fitsHead_55 (F_X6_fitsAt n) p pl lev (skipE τ p (hdR τ pl)) a.1 a.2) (F := mt τ (envR τ) n) (it := itm τ p pl (hdR τ pl)) (m := m) (P := fun y s => PX τ σ0 y s ∧ Fmono τ σ2 s) hend hstep m 0 3000 _ σ2 (by omega) (by omega) ⟨⟨hcr2, hJ1, hB2⟩, Fmono.rfl'⟩
    have r1' : iter (fun a : (Int × Sg) => L_X6_fitsHead_55 (F_X6_fitsAt n) p pl lev (skipE τ p (hdR τ pl)) a.1 a.2) 3000 (0, σ2) = some (if b = true then .inl σ' else .inr (false, σ')) := r1
    rw [r1', Option.bind_some]
    refine ⟨b, σ', ?_, r2, r3.1, (m27.trans e3).trans r3.2⟩
    cases b with
    | true => rw [if_pos rfl, Sum.elim_inl]
    | false => rw [if_neg (by simp), Sum.elim_inr]
  · have cf : isR τ p (hdR τ pl) = false := by simpa using cr
    rw [if_neg cr, if_neg cr]
    exact ⟨false, _, rfl, rfl, ⟨x1, hJ1, hB1⟩, m27⟩
