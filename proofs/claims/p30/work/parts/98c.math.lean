/-! the class's plain engine: patterns, cases, a run -/
set_option maxHeartbeats 4000000 in
theorem fitsAt_cl {σ0 τ : Sg} (hC : CtxC σ0 τ) : ∀ n, FitsAt τ σ0 n
  | 0 => fun p pl lev x σ ho _ hn _ _ _ _ => by have := hC.2.2.1.2.1.ge ho.1; omega
  | n + 1 => fun p pl lev x σ ho hpl hn hl hl2 hx hf => by
    have ih := fitsAt_cl hC n
    obtain ⟨hK, hV0, hP0, hW0, hM0, hG⟩ := id hC
    have hF := hK.2.2.2
    have hW := hP0.2.1
    have hM := hM0.2.2.2.1
    have hH := hC.hok
    have hp := ho.1
    have hge := hW.ge hp
    have hform := hW.form hp
    have hvr := ho.vR hpl
    have hRP := hC.rp hx.1.1
    have hnn : τ 14 p ≤ n + 1 := by omega
    show ∃ b σ', G_X6_fitsAt (F_X6_fitsAt n) p pl lev σ = some (b, σ') ∧ (mtG τ (envR τ) (mt τ (envR τ) n) p pl x).1 = .inl b ∧ PX τ σ0 (mtG τ (envR τ) (mt τ (envR τ) n) p pl x).2 σ' ∧ Fmono τ σ σ'
    unfold G_X6_fitsAt
    rw [if_pos (show lev ≤ 40 by omega), sortOf5 hRP hp]
    by_cases c0 : τ 8 p = 0
    · unfold mtG
      rw [if_pos (show sortOf τ p = 0 by unfold sortOf; rw [if_neg (by omega)]; exact c0), if_pos c0]
      exact ⟨true, σ, rfl, rfl, hx, Fmono.rfl'⟩
    by_cases c1 : τ 8 p = 1
    · obtain ⟨g1, g2, -⟩ := hW.g1 hp c1
      have hb := hW.pb hp (k := 0) (by omega)
      obtain ⟨-, -, hsz⟩ := sz_part hW hp (k := 0) (by omega) (by omega)
      have hlow : lowOf τ p = τ 9 p := by unfold lowOf; rw [if_neg (by omega)]
      obtain ⟨y1, y2⟩ := bind_cl (pl := pl) hx g1 hvr hf
      have hfm : Fmono τ σ (F_X1_bind (τ 9 p) pl σ) := Fmono.row (by rw [y2]; funext j; rw [up2_row (by omega)])
      obtain ⟨b, σ', u1, u2, u3, u4⟩ := ih (prt τ p 0).toNat pl (lev + 1) _ _ (ho.name hW c1) hpl (by omega) (by omega) (by omega) y1 (hfm pl hvr hf)
      rw [show (((prt τ p 0).toNat : Nat) : Int) = prt τ p 0 by omega] at u1
      unfold mtG
      rw [show sortOf τ p = 1 by unfold sortOf; rw [if_neg (by omega)]; exact c1, if_neg (by decide), if_pos rfl, if_neg c0, if_pos c1, lowOf5 hRP hp, hlow, bnd_eq, show F_X5_partOf p 0 (F_X1_bind (τ 9 p) pl σ) = prt τ p 0 from partOf5 (k := 0) (hC.rp y1.1.1) hp (by decide), wrap_id (by omega) (by omega), u1, Option.bind_some]
      exact ⟨b, σ', rfl, u2, u3, hfm.trans u4⟩
    by_cases c4 : τ 8 p = 4
    · obtain ⟨g0, g1, -⟩ := hW.g4 hp c4
      have b0 := hW.pb hp (k := 0) (by omega)
      have b1 := hW.pb hp (k := 1) (by omega)
      obtain ⟨-, -, z0⟩ := sz_part hW hp (k := 0) (by omega) (by omega)
      obtain ⟨-, -, z1⟩ := sz_part hW hp (k := 1) (by omega) (by omega)
      obtain ⟨b, σ1, q1, q2, q3, q4⟩ := ih (prt τ p 0).toNat pl (lev + 1) x σ (ho.alt hW c4 (k := 0) (by omega)) hpl (by omega) (by omega) (by omega) hx hf
      rw [show (((prt τ p 0).toNat : Nat) : Int) = prt τ p 0 by omega] at q1
      unfold mtG
      rw [show sortOf τ p = 4 by unfold sortOf; rw [if_neg (by omega)]; exact c4, if_neg (by decide), if_neg (by decide), if_pos rfl, if_neg c0, if_neg c1, if_pos c4, show F_X5_partOf p 0 σ = prt τ p 0 from partOf5 (k := 0) hRP hp (by decide), wrap_id (by omega) (by omega), q1, Option.bind_some]
      cases b with
      | true =>
        dsimp only
        rw [if_pos rfl, if_neg (by rw [q2]; simp)]
        exact ⟨true, σ1, rfl, q2, q3, q4⟩
      | false =>
        obtain ⟨b', σ2, u1, u2, u3, u4⟩ := ih (prt τ p 1).toNat pl (lev + 1) _ σ1 (ho.alt hW c4 (k := 1) (by omega)) hpl (by omega) (by omega) (by omega) q3 (q4 pl hvr hf)
        rw [show (((prt τ p 1).toNat : Nat) : Int) = prt τ p 1 by omega] at u1
        dsimp only
        rw [if_neg (by simp), if_pos q2, show F_X5_partOf p 1 σ1 = prt τ p 1 from partOf5 (k := 1) (hC.rp q3.1.1) hp (by decide), u1, Option.bind_some]
        refine ⟨b', σ2, ?_, u2, u3, q4.trans u4⟩
        cases b' <;> rfl
    by_cases c5 : τ 8 p = 5
    · obtain ⟨g1, g2, g3, g4, g5, g6, g7⟩ := hW.g5 hp c5
      have b0 := hW.pb hp (k := 0) (by omega)
      obtain ⟨-, -, z0⟩ := sz_part hW hp (k := 0) (by omega) (by omega)
      have hlow : lowOf τ p = τ 9 p := by unfold lowOf; rw [if_neg (by omega)]
      obtain ⟨σ1, l1, l2, l3, l4, l5, l6⟩ := look_cl (v := τ 9 p) hF (hC.rv hx.1.1) hM hG (hC.rw hx.1.1) hH hx.1 hx.2.1 g1 hvr hf
      have hf28 : Fmono τ σ σ1 := Fmono.row (l4 28 (by decide))
      have hgx : (gvR τ (τ 9 p) pl x).2.1 = x.1 := by unfold gvR; split <;> rfl
      have hB1 : BK τ (gvR τ (τ 9 p) pl x).2 σ1 := hx.2.2.mono hgx hf28
      obtain ⟨b, σ2, u1, u2, u3, u4, u5, u6⟩ := fitsNumber_cl hC 50 n (prt τ p 0).toNat (gvR τ (τ 9 p) pl x).1 (lev + 1) _ σ1 (by omega) g7 ⟨l5, l6⟩ (by have := hW.ge (p := (prt τ p 0).toNat) (by omega); omega) (by omega) (by omega) (by omega) l2
      rw [show (((prt τ p 0).toNat : Nat) : Int) = prt τ p 0 by omega] at u1
      have hm2 : Fmono τ σ1 σ2 := Fmono.row (u6 28 (by omega))
      unfold mtG
      rw [show sortOf τ p = 5 by unfold sortOf; rw [if_neg (by omega)]; exact c5, if_neg (by decide), if_neg (by decide), if_neg (by decide), if_pos rfl, if_neg c0, if_neg c1, if_neg c4, if_pos c5, lowOf5 hRP hp, hlow, l1, Option.bind_some]
      dsimp only
      rw [show F_X5_partOf p 0 σ1 = prt τ p 0 from partOf5 (k := 0) (hC.rp l2.1) hp (by decide), wrap_id (by omega) (by omega), u1, Option.bind_some]
      show ∃ b' σ', _ ∧ (if (gvR τ (τ 9 p) pl x).1 = -9 then _ else mt τ (envR τ) n (prt τ p 0).toNat (-1 - (gvR τ (τ 9 p) pl x).1) (gvR τ (τ 9 p) pl x).2).1 = _ ∧ PX τ σ0 (if (gvR τ (τ 9 p) pl x).1 = -9 then _ else mt τ (envR τ) n (prt τ p 0).toNat (-1 - (gvR τ (τ 9 p) pl x).1) (gvR τ (τ 9 p) pl x).2).2 σ' ∧ _
      rw [if_neg (by omega)]
      exact ⟨b, σ2, rfl, u2, ⟨u3, by rw [u4]; exact l3, hB1.mono u5 hm2⟩, hf28.trans hm2⟩
    · obtain ⟨b, σ', u1, u2, u3, u4⟩ := fitsHead_cl hC ih p pl lev x σ ho hpl hnn hl hl2 hx hf c0 c1 c4 c5
      have hso : ¬ sortOf τ p = 0 ∧ ¬ sortOf τ p = 1 ∧ ¬ sortOf τ p = 4 ∧ ¬ sortOf τ p = 5 := by unfold sortOf; split <;> omega
      obtain ⟨s0, s1, s4, s5⟩ := hso
      rw [if_neg s0, if_neg s1, if_neg s4, if_neg s5]
      unfold B_X6_fitsAt_182
      rw [u1, Option.bind_some]
      exact ⟨b, σ', rfl, u2, u3, u4⟩
theorem RM.fr {σ σ' τ : Sg} (h : RM σ τ) (hs : ∀ r, 24 ≤ r → r ≤ 26 → σ' r = σ r) : RM σ' τ := by
  obtain ⟨h1, h2, h3, h4, h5⟩ := h
  refine ⟨by rw [hs 24 (by omega) (by omega)]; exact h1, by rw [hs 24 (by omega) (by omega)]; exact h2, fun k hk => by rw [hs 25 (by omega) (by omega)]; exact h3 k hk, h4, fun c hc => ?_⟩
  unfold RM1
  rw [hs 26 (by omega) (by omega)]
  exact h5 c hc
theorem CtxC.rm {σ0 σ τ : Sg} (h : CtxC σ0 τ) (hs : FrC σ0 σ) : RM σ τ := h.2.2.2.2.1.fr (fun r r1 r2 => hs.row (by omega))
theorem unbind_cl {σ0 σ τ : Sg} {x : XS} (hx : CR σ0 x σ) : CR σ0 (clrX x) (F_X1_unbind σ) ∧ (∀ r, ¬ r = 31 → F_X1_unbind σ r = σ r) ∧ BK τ (clrX x) (F_X1_unbind σ) := by
  obtain ⟨h1, h2, h3, h4, h5, h6⟩ := hx
  have hr : ∀ r, ¬ r = 31 → F_X1_unbind σ r = σ r := fun r hr => by
    unfold F_X1_unbind; rw [bnd_eq]; funext j; exact fillF_row hr
  refine ⟨⟨h1.same (fun r h => hr r (fun z => h (by rw [z]; decide))) (fun i _ => by rw [hr 33 (by omega)]), fun i hi => ?_, by rw [hr 27 (by omega)]; exact h3, by rw [hr 27 (by omega)]; exact h4, rnc_congr (hr 30 (by omega)) h5, h6.congr (hr 29 (by omega))⟩, hr, fun i hi => Or.inl rfl⟩
  unfold F_X1_unbind
  rw [bnd_eq, fillF_at hi]; rfl
theorem get4c {σ τ : Sg} {c k : Nat} (h : RM σ τ) (hc : (c : Int) < τ 0 23) (hk : k < 3) : F_X4_get c k σ = cpt τ c k := by
  rw [get4 h ⟨by omega, hc⟩ (by omega), show ((c : Int)).toNat = c by omega, show ((k : Int)).toNat = k by omega]
  exact (h.2.2.2.2 c hc).1 k hk
/-- the columns' values are found -/
def FC (τ σ : Sg) : Prop := ∀ k : Nat, (k : Int) < τ 0 21 → vR τ ((k : Int) + 1) ∧ Fk τ σ ((k : Int) + 1)
theorem FC.mono {τ σ σ' : Sg} (h : FC τ σ) (hm : Fmono τ σ σ') : FC τ σ' := fun k hk => ⟨(h k hk).1, hm _ (h k hk).1 (h k hk).2⟩
set_option maxHeartbeats 4000000 in
theorem fitsCase_cl {σ0 τ : Sg} (hC : CtxC σ0 τ) {c : Nat} {x : XS} {σ : Sg} (hc : (c : Int) < τ 0 23) (hx : CR σ0 x σ) (hJ : JR x.2.2) (hfc : FC τ σ) : ∃ b σ', F_X6_fitsCase c σ = some (b, σ') ∧ (tryS τ (envR τ) c x).1 = .inl b ∧ PX τ σ0 (tryS τ (envR τ) c x).2 σ' ∧ Fmono τ σ σ' := by
  obtain ⟨hK, hV0, hP0, hW0, hM0, hG⟩ := id hC
  have hW := hP0.2.1
  have hM := hM0.2.2.2.1
  obtain ⟨x1, x2, x3⟩ := unbind_cl (τ := τ) hx
  have hm1 : Fmono τ σ (F_X1_unbind σ) := Fmono.row (x2 28 (by omega))
  obtain ⟨m, hm⟩ : ∃ m : Nat, τ 0 21 = m := ⟨(τ 0 21).toNat, by have := hM.1; omega⟩
  have hm3 := hM.1
  have hend : ∀ (y : XS) (s : Sg), PX τ σ0 y s ∧ Fmono τ (F_X1_unbind σ) s → L_X6_fitsCase_9 c m s = some (.inr (.inl s)) := fun y s hs => by
    unfold L_X6_fitsCase_9 F_X4_columns
    rw [(hC.rm hs.1.1.1).1, hm, if_pos (Int.le_refl _)]
  have hstep : ∀ (k : Nat) (y : XS) (s : Sg), k < m → PX τ σ0 y s ∧ Fmono τ (F_X1_unbind σ) s → ∃ b s', L_X6_fitsCase_9 c k s = some (if b = true then .inl ((k : Int) + 1, s') else .inr (.inr (false, s'))) ∧ (mt τ (envR τ) 60 (citm τ c k).1 (citm τ c k).2 y).1 = .inl b ∧ PX τ σ0 (mt τ (envR τ) 60 (citm τ c k).1 (citm τ c k).2 y).2 s' ∧ Fmono τ (F_X1_unbind σ) s' := fun k y s hk hP => by
    have hmem : citm τ c k ∈ colsL τ c := by rw [colsL_run hM hm]; exact runL_mem (by omega) (by omega)
    have hok := cols_ok (H := hdR τ) hM hc _ hmem
    have hge := hW.ge hok.1
    have hff := ((hM.2.2.2.2 c hc).1 k (by omega)).1 (by omega)
    have hk0 := hff.1
    obtain ⟨f1, f2⟩ := (hfc.mono (hm1.trans hP.2)) k (by omega)
    obtain ⟨b, s', u1, u2, u3, u4⟩ := fitsAt_cl hC 50 (citm τ c k).1 (citm τ c k).2 0 y s hok (by show 1 ≤ (k : Int) + 1; omega) (by omega) (by omega) (by omega) hP.1 f2
    rw [mt_fuel hW 50 60 _ _ _ hok.1 (by omega) (by omega)] at u2 u3
    have u1' : F_X6_fitsAt 50 (cpt τ c k) ((k : Int) + 1) 0 s = some (b, s') := by
      rw [← u1]
      show _ = F_X6_fitsAt 50 (((cpt τ c k).toNat : Nat) : Int) _ _ _
      rw [show (((cpt τ c k).toNat : Nat) : Int) = cpt τ c k by omega]
      rfl
    clear u1
    refine ⟨b, s', ?_, u2, u3, hP.2.trans u4⟩
    unfold L_X6_fitsCase_9 F_X4_columns
    rw [(hC.rm hP.1.1.1).1, hm, if_neg (by omega), get4c (hC.rm hP.1.1.1) hc (by omega), wrap_id (by omega) (by omega), u1', Option.bind_some]
    dsimp only
    cases b with
    | true => rw [if_pos rfl, if_pos rfl]
    | false => rw [if_neg (by simp), if_neg (by simp)]
  obtain ⟨b, σ', r1, r2, r3⟩ := loopB' (f := fun a : (Int × Sg) => L_X6_fitsCase_9 c a.1 a.2) (F := mt τ (envR τ) 60) (it := citm τ c) (m := m) (P := fun y s => PX τ σ0 y s ∧ Fmono τ (F_X1_unbind σ) s) hend hstep m 0 3000 (clrX x) (F_X1_unbind σ) (by omega) (by omega) ⟨⟨x1, hJ, x3⟩, Fmono.rfl'⟩
  unfold tryS
  rw [colsL_run hM hm]
  have r1' : iter (fun a : (Int × Sg) => L_X6_fitsCase_9 c a.1 a.2) 3000 (0, F_X1_unbind σ) = some (if b = true then .inl σ' else .inr (false, σ')) := r1
  unfold F_X6_fitsCase
  rw [bnd_eq, r1', Option.bind_some]
  refine ⟨b, σ', ?_, r2, r3.1, hm1.trans r3.2⟩
  cases b with
  | true => rw [if_pos rfl, Sum.elim_inl]
  | false => rw [if_neg (by simp), Sum.elim_inr]
/-- how a guard comes out: 0 holds, 1 fails, 2 raises -/
def grd (τ : Sg) (H : Int → Int) (c : Nat) (x : XS) : Int :=
  if τ 22 c = -1 then 0
  else if τ 22 c = 0 then (if H (x.1 (τ 23 c).toNat) < τ 24 c then 0 else 1)
  else if τ 22 c = 1 then (if H (x.1 (τ 23 c).toNat) = τ 24 c then 0 else 1)
  else if τ 22 c = 2 then (if τ 24 c < H (x.1 (τ 23 c).toNat) then 0 else 1)
  else (if H (x.1 (τ 23 c).toNat) = τ 24 c then 2 else 0)
theorem get4m {σ τ : Sg} {c : Nat} (h : RM σ τ) (hc : (c : Int) < τ 0 23) (k : Nat) (hk : k < 8) : F_X4_get c k σ = σ 26 (8 * c + k) := by
  rw [get4 h ⟨by omega, hc⟩ (by omega), show ((c : Int)).toNat = c by omega, show ((k : Int)).toNat = k by omega]
theorem guardOf_cl {σ τ : Sg} {x : XS} {c : Nat} (hM : RM σ τ) (hc : (c : Int) < τ 0 23) (hb : ∀ i : Nat, i < 6 → σ 31 i = x.1 i) (hh : ¬ τ 22 c = -1 → F_X1_headAt (x.1 (τ 23 c).toNat) σ = hdR τ (x.1 (τ 23 c).toNat)) : F_X1_guardOf c σ = grd τ (hdR τ) c x := by
  obtain ⟨f1, f2, f3, f4⟩ := hM.2.2.2.1.2.2.2.2 c hc
  obtain ⟨m1, m2, m3, m4, m5⟩ := hM.2.2.2.2 c hc
  have e4 : F_X4_get c 4 σ = τ 22 c := (get4m hM hc 4 (by omega)).trans m3
  unfold F_X1_guardOf grd
  rw [bnd_eq, bnd_eq, e4]
  clear e4
  by_cases g : τ 22 c = -1
  · rw [if_pos g, g, if_neg (by decide), if_neg (by decide), if_neg (by decide), if_neg (by decide)]
  · obtain ⟨n1, n2, -⟩ := f4 g
    obtain ⟨m6, m7⟩ := m4 g
    have hpl : F_X1_placeOf (F_X4_get c 5 σ) σ = x.1 (τ 23 c).toNat := by
      rw [show F_X4_get c 5 σ = τ 23 c from (get4m hM hc 5 (by omega)).trans m6]
      unfold F_X1_placeOf
      rw [rdD_ok n1.1 (by omega)]
      exact hb _ (by omega)
    rw [if_neg g, hpl, hh g, show F_X4_get c 6 σ = τ 24 c from (get4m hM hc 6 (by omega)).trans m7]
    clear hpl
    by_cases c0 : τ 22 c = 0
    · rw [if_pos c0, if_pos c0]
      by_cases q : hdR τ (x.1 (τ 23 c).toNat) < τ 24 c
      · rw [if_neg (by omega), if_pos q]
      · rw [if_pos (by omega), if_neg q]
    · rw [if_neg c0, if_neg c0]
      by_cases c1 : τ 22 c = 1
      · rw [if_pos c1, if_pos c1]
      · rw [if_neg c1, if_neg c1]
        by_cases c2 : τ 22 c = 2
        · rw [if_pos c2, if_pos c2]
          by_cases q : τ 24 c < hdR τ (x.1 (τ 23 c).toNat)
          · rw [if_neg (by omega), if_pos q]
          · rw [if_pos (by omega), if_neg q]
        · rw [if_neg c2, if_neg c2, if_pos (by omega)]
