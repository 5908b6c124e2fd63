/-! the reference's matching: a pattern, by what is made of its parts -/
def MatchAt (τ : Sg) (E : EnvQ) (J : List (Int × Int × Int) → Prop) (n : Nat) : Prop := ∀ (p : Nat) (pl : Int) (x : XS) (s : Sg) (S : List (Int × Int)) (C : List (Int × Int × Int)), okP τ E.1 p pl → τ 14 p ≤ n → J x.2.2 → st s (((p : Int), pl) :: S) C → RX τ x s → S.length + 2 * τ 14 p ≤ 250 → C.length + τ 14 p ≤ 64 → Out τ J S C (mt τ E n p pl x) s (2 * τ 14 p)
theorem szL_ge {τ : Sg} (hW : WFP τ) : ∀ {L : List (Nat × Int)}, (∀ q ∈ L, (q.1 : Int) < τ 0 9) → (L.length : Int) ≤ szL τ L
  | [], _ => by rw [szL_nil]; simp
  | q :: L, h => by
    have h1 := hW.ge (h q List.mem_cons_self)
    have h2 := szL_ge hW (L := L) (fun x hx => h x (List.mem_cons_of_mem _ hx))
    rw [szL_cons, List.length_cons]
    omega
theorem seq_c {τ : Sg} {E : EnvQ} {J : List (Int × Int × Int) → Prop} {n : Nat} (hW : WFP τ) (ih : MatchAt τ E J n) : ∀ (L : List (Nat × Int)) (x : XS) (s : Sg) (S : List (Int × Int)) (C : List (Int × Int × Int)), (∀ q ∈ L, okP τ E.1 q.1 q.2 ∧ τ 14 q.1 ≤ n ∧ C.length + τ 14 q.1 ≤ 64) → J x.2.2 → st s (L.map toI ++ S) C → RX τ x s → S.length + 2 * szL τ L ≤ 250 → Out τ J S C (seqM (mt τ E n) L x) s (2 * szL τ L)
  | [], x, s, S, C, _, hJ, h, hx, _ => by
    refine ⟨hJ, fun _ => ⟨0, s, by rw [szL_nil]; simp, Rch.nil, h, hx⟩, (fun q => by cases q), (fun a q => by cases q)⟩
  | q :: L, x, s, S, C, ho, hJ, h, hx, h1 => by
    have hq := ho q List.mem_cons_self
    have ho' : ∀ q ∈ L, okP τ E.1 q.1 q.2 ∧ τ 14 q.1 ≤ n ∧ C.length + τ 14 q.1 ≤ 64 := fun x hx => ho x (List.mem_cons_of_mem _ hx)
    have hlt := szL_ge hW (L := L) (fun x hx => (ho' x hx).1.1)
    have hge := hW.ge hq.1.1
    rw [szL_cons] at h1
    have hlen : ((L.map toI ++ S).length : Int) = L.length + S.length := by rw [List.length_append, List.length_map]; omega
    have o := ih q.1 q.2 x s (L.map toI ++ S) C hq.1 hq.2.1 hJ h hx (by omega) hq.2.2
    obtain ⟨o0, o1, o2, o3⟩ := o
    rw [szL_cons]
    unfold seqM
    by_cases c : (mt τ E n q.1 q.2 x).1 = .inl true
    · rw [if_pos c]
      obtain ⟨j, s', a1, a2, a3, a4⟩ := o1 c
      have := seq_c hW ih L (mt τ E n q.1 q.2 x).2 s' S C ho' o0 a3 a4 (by omega)
      exact this.pre a2 (by omega)
    · rw [if_neg c]
      refine ⟨o0, fun z => absurd z c, fun z => ?_, fun a z => ?_⟩
      · obtain ⟨j, s1, s', a1, a2, a3, a4, a5⟩ := o2 z
        exact ⟨j, s1, s', by omega, a2, a3, hp_app a4, a5⟩
      · obtain ⟨j, s1, s', a1, a2⟩ := o3 a z
        exact ⟨j, s1, s', by omega, a2⟩
theorem b275_t {s : Sg} : B_X11_matches_275 true s = some (0, s) := rfl
theorem b275_f {s : Sg} : B_X11_matches_275 false s = some (1, s) := rfl
set_option maxHeartbeats 4000000 in
theorem head_c {τ : Sg} {E : EnvQ} {J : List (Int × Int × Int) → Prop} {n : Nat} (hW : WFP τ) (hF : WFK (τ 1) (τ 2) (τ 3)) (hH : HOK τ E.1) (hE : EnvOK τ E J) (ih : MatchAt τ E J n) (p : Nat) (pl : Int) (x : XS) (s : Sg) (S : List (Int × Int)) (C : List (Int × Int × Int)) (ho : okP τ E.1 p pl) (hn : τ 14 p ≤ n + 1) (hJ : J x.2.2) (h : st s (((p : Int), pl) :: S) C) (hx : RX τ x s) (h1 : S.length + 2 * τ 14 p ≤ 250) (h2 : C.length + τ 14 p ≤ 64) (c0 : ¬ τ 8 p = 0) (c1 : ¬ τ 8 p = 1) (c4 : ¬ τ 8 p = 4) (c5 : ¬ τ 8 p = 5) : Out τ J S C (mtG τ E (mt τ E n) p pl x) s (2 * τ 14 p) := by
  obtain ⟨hE1, hE2, hE3⟩ := hE
  have w2 := hW.2.1
  have hp := ho.1
  have hge := hW.ge hp
  have hform := hW.form hp
  have hpp : ((p : Int)).toNat = p := by omega
  have hps := pop_st h
  have hpx := pop_RX (n := S.length) hx
  have hstep := step_p h (by omega)
  generalize pop s S.length = t at *
  have e8 := hpx.1.row (r := 8) (by omega) (by omega)
  -- the fact
  have hfact : ∃ t', F_X11_factAt pl t = some (factE E pl, t') ∧ (∀ r, ¬ r = 34 → t' r = t r) ∧ (¬ factE E pl = -9 → 0 ≤ factE E pl ∧ factE E pl ≤ 9) := by
    unfold factE
    rcases ho.2 with g | g
    · refine ⟨t, ?_, fun _ _ => rfl, fun _ => by rw [if_pos (by omega)]; omega⟩
      unfold F_X11_factAt
      rw [if_neg (by omega), if_pos (by omega), wrap_id (by omega) (by omega)]
    · have h468 := PB_468 (d := τ 13 p)
      obtain ⟨t', g1, g2⟩ := hE1 pl x t hpx hJ g.1 (by omega) g.2.2.1
      refine ⟨t', ?_, g2, fun q => ?_⟩
      · rw [if_neg (by omega)]; exact g1
      · rw [if_neg (by omega)] at q ⊢
        have := hH pl g.1 (by omega) g.2.2.1 q
        exact ⟨this.1, this.2.1⟩
  obtain ⟨t', f1, f2, f3⟩ := hfact
  have hx' : RX τ x t' := hpx.way f2
  have hs' : st t' S C := ⟨hp_congr (f2 28 (by omega)) (f2 29 (by omega)) hps.1.1, by rw [f2 0 (by omega)]; exact hps.1.2.1, chs_congr (f2 30 (by omega)) (f2 31 (by omega)) (f2 32 (by omega)) hps.1.2.2.1, by rw [f2 0 (by omega)]; exact hps.1.2.2.2⟩
  have hm : F_X11_matches p pl t = (B_X11_matches_207 p pl t) := by
    unfold F_X11_matches
    rw [rdn_ok (by omega) (by omega), Option.bind_some, hpp, e8, if_neg c0, if_neg c1, if_neg c4, if_neg c5]
  rw [hm] at hstep
  unfold B_X11_matches_207 at hstep
  rw [f1, Option.bind_some] at hstep
  unfold mtG
  rw [if_neg c0, if_neg c1, if_neg c4, if_neg c5]
  by_cases c9 : factE E pl = -9
  · rw [if_pos c9]
    refine ⟨hJ, (fun q => by cases q), (fun q => by cases q), fun a q => ?_⟩
    cases q
    refine ⟨0, s, up2 (up2 t' 0 42 5) 0 44 pl, by simp; omega, Rch.nil, ?_, (hx'.up (Or.inr (Or.inr ⟨rfl, by decide⟩))).up (Or.inr (Or.inr ⟨rfl, by decide⟩)), ?_, fun q => absurd q (by show ¬ (3 : Int) = 4; omega)⟩
    · rw [hstep]
      unfold F_X11_isAsked B_X11_isAsked_16
      dsimp only
      rw [if_pos c9, bnd_eq, bnd_eq, bnd_eq, if_pos c9, if_pos rfl]
      rfl
    · intro _
      exact ⟨by rw [up2_idx (by omega), up2_at rfl rfl], by rw [up2_at rfl rfl]⟩
  · rw [if_neg c9]
    have hff := f3 c9
    obtain ⟨T1, T2⟩ := hE3 x t' hx' hJ
    -- the state behind the test
    have hstep2 : MF s = (F_X11_isRight p (factE E pl) (up2 t' 0 47 (wrap (t' 0 47 + (if t' 0 40 = 0 then 0 else 1))))).bind fun q53 => (if q53 = true then (rdn 60 (up2 t' 0 47 (wrap (t' 0 47 + (if t' 0 40 = 0 then 0 else 1)))) 8 p).bind fun v55 => if v55 = 2 then B_X11_matches_275 q53 (up2 t' 0 47 (wrap (t' 0 47 + (if t' 0 40 = 0 then 0 else 1)))) else (F_X11_pushParts p pl (factE E pl) (up2 t' 0 47 (wrap (t' 0 47 + (if t' 0 40 = 0 then 0 else 1))))).bind fun q57 => B_X11_matches_275 q53 q57 else B_X11_matches_275 q53 (up2 t' 0 47 (wrap (t' 0 47 + (if t' 0 40 = 0 then 0 else 1))))).bind fun q => B_X11_tryCase_124 q.1 q.2 := by
      rw [hstep]
      unfold F_X11_isAsked B_X11_isAsked_16
      dsimp only
      rw [if_neg c9, bnd_eq, if_neg c9, if_neg (by simp)]
      dsimp only
      by_cases c40 : t' 0 40 = 0
      · rw [if_pos c40, if_pos c40]
        unfold B_X11_matches_241
        rw [bnd_eq, show b2i false = 0 from rfl, Option.bind_assoc]
      · rw [if_neg c40, if_neg c40]
        unfold B_X11_matches_241
        rw [bnd_eq, show b2i true = 1 from rfl, Option.bind_assoc]
    clear hstep
    generalize wrap (t' 0 47 + (if t' 0 40 = 0 then 0 else 1)) = w at *
    have hs2 : st (up2 t' 0 47 w) S C := ⟨hp_up hs'.1 (Or.inl (by omega)), by rw [up2_idx (by omega)]; exact hs'.2.1, chs_up hs'.2.2.1 (Or.inl (by omega)), by rw [up2_idx (by omega)]; exact hs'.2.2.2⟩
    generalize up2 t' 0 47 w = u at *
    have u8 := T1.1.row (r := 8) (by omega) (by omega)
    rw [isRight_c hW hp T1.1 (by omega), Option.bind_some] at hstep2
    by_cases cr : isR τ p (factE E pl) = true
    · rw [if_pos cr] at hstep2 ⊢
      rw [rdn_ok (by omega) (by omega), Option.bind_some, hpp, u8, cr, b275_t] at hstep2
      by_cases c2 : τ 8 p = 2
      · rw [if_pos c2, Option.bind_some, b124_0] at hstep2
        obtain ⟨-, g0, g1, g2, -⟩ := hW.g2 hp c2
        have hL : partsL τ p pl (factE E pl) = [] := by unfold partsL part1; rw [if_pos g0, if_pos g1, if_pos g2]; rfl
        rw [hL]
        exact ⟨T2, fun _ => ⟨1, u, by omega, Rch.one hstep2, hs2, T1⟩, fun q => (by cases q), fun a q => (by cases q)⟩
      · rw [if_neg c2] at hstep2
        have hpl : 1 ≤ pl ∧ pl ≤ 468 := by
          have := ho.pl (fun q => by
            have h36 : τ 8 p = 3 ∨ τ 8 p = 6 := by omega
            rcases h36 with z | z
            · obtain ⟨_, _, _, _, _, _, z2, _⟩ := hW.g3 hp z; omega
            · have := (hW.g6 hp z).2.2.2.1; omega)
          omega
        have hfe : factE E pl = E.1 pl := by unfold factE; rw [if_neg (by omega)]
        have h28 : 2 ≤ τ 8 p := by omega
        obtain ⟨u', v1, v2, v3⟩ := pushParts_c (pl := pl) hW hp ⟨by omega, hpl.2⟩ hff cr h28 T1.1 hs2 (by omega)
        rw [v1, Option.bind_some, b275_t, Option.bind_some, b124_0] at hstep2
        have hsz := szL_parts (pl := pl) (f := factE E pl) hW hp
        have hok : ∀ q ∈ partsL τ p pl (factE E pl), okP τ E.1 q.1 q.2 ∧ τ 14 q.1 ≤ n ∧ C.length + τ 14 q.1 ≤ 64 := fun q hq => by
          have z := parts_lt hW hp hq
          rw [hfe] at hq cr c9
          exact ⟨ho.parts hW hF hH c0 c1 c4 c5 hpl.1 c9 cr q hq, by omega, by omega⟩
        have := seq_c hW ih _ (E.2.2 x) u' S C hok T2 v2 (v3 _ T1) (by omega)
        exact this.pre (Rch.one hstep2) (by omega)
    · rw [if_neg cr] at hstep2 ⊢
      have cf : isR τ p (factE E pl) = false := by simpa using cr
      rw [cf, b275_f, Option.bind_some] at hstep2
      exact ⟨T2, fun q => (by cases q), fun _ => ⟨0, s, u, by simp; omega, Rch.nil, hstep2, hs2.1, hs2.2.2.1, hs2.2.2.2, T1⟩, fun a q => (by cases q)⟩
