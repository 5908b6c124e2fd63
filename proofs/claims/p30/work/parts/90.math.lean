/-! the reference's matching: names, alternatives, views -/
set_option maxHeartbeats 4000000 in
theorem name_c {τ : Sg} {E : EnvQ} {J : List (Int × Int × Int) → Prop} {n : Nat} (hW : WFP τ) (ih : MatchAt τ E J n) (p : Nat) (pl : Int) (x : XS) (s : Sg) (S : List (Int × Int)) (C : List (Int × Int × Int)) (ho : okP τ E.1 p pl) (hn : τ 14 p ≤ n + 1) (hJ : J x.2.2) (h : st s (((p : Int), pl) :: S) C) (hx : RX τ x s) (h1 : S.length + 2 * τ 14 p ≤ 250) (h2 : C.length + τ 14 p ≤ 64) (c1 : τ 8 p = 1) : Out τ J S C (mt τ E n (prt τ p 0).toNat pl (bindX x (τ 9 p) pl)) s (2 * τ 14 p) := by
  have w2 := hW.2.1
  have hp := ho.1
  obtain ⟨g1, g2, -⟩ := hW.g1 hp c1
  have hb := hW.pb hp (k := 0) (by omega)
  obtain ⟨-, -, hsz⟩ := sz_part hW hp (k := 0) (by omega) (by omega)
  have hge := hW.ge (p := (prt τ p 0).toNat) (by omega)
  have hps := pop_st h
  have hpx := pop_RX (n := S.length) hx
  have hstep := step_p h (by omega)
  have ho' := ho.name hW c1
  generalize pop s S.length = t at *
  have e8 := hpx.1.row (r := 8) (by omega) (by omega)
  have e9 := hpx.1.row (r := 9) (by omega) (by omega)
  have e11 := hpx.1.row (r := 11) (by omega) (by omega)
  have hpp : ((p : Int)).toNat = p := by omega
  have hbx := hpx.bind (pl := pl) g1
  have hbs : st (up2 t 33 (τ 9 p).toNat pl) S C := ⟨hp_up hps.1.1 (Or.inl (by omega)), by rw [up2_row (by omega)]; exact hps.1.2.1, chs_up hps.1.2.2.1 (Or.inl (by omega)), by rw [up2_row (by omega)]; exact hps.1.2.2.2⟩
  have hm : F_X11_matches p pl t = some (0, pu (up2 t 33 (τ 9 p).toNat pl) (prt τ p 0) pl) := by
    unfold F_X11_matches
    rw [rdn_ok (by omega) (by omega), Option.bind_some, hpp, e8, if_neg (by omega), if_pos c1, rdn_ok (by omega) (by omega), Option.bind_some, hpp, e9, wrn_ok (by omega) (by omega), Option.bind_some, wrap_id (by omega) (by omega), rdn_ok (by omega) (by omega), Option.bind_some, up2_row (by omega), show (3 * (p : Int)).toNat = 3 * p + 0 by omega, e11]
    show (F_X11_push (prt τ p 0) pl _).bind _ = _
    rw [push_c (by have := hbs.2.1; omega), Option.bind_some]
  rw [hm, Option.bind_some, b124_0] at hstep
  have hst := st_pu (a := prt τ p 0) (b := pl) hbs
  rw [show prt τ p 0 = (((prt τ p 0).toNat : Nat) : Int) by omega] at hst hstep
  have := ih (prt τ p 0).toNat pl (bindX x (τ 9 p) pl) _ S C ho' (by omega) hJ hst (RX_pu hbx) (by omega) (by omega)
  exact this.pre (Rch.one hstep) (by omega)
set_option maxHeartbeats 4000000 in
theorem alt_c {τ : Sg} {E : EnvQ} {J : List (Int × Int × Int) → Prop} {n : Nat} (hW : WFP τ) (ih : MatchAt τ E J n) (p : Nat) (pl : Int) (x : XS) (s : Sg) (S : List (Int × Int)) (C : List (Int × Int × Int)) (ho : okP τ E.1 p pl) (hn : τ 14 p ≤ n + 1) (hJ : J x.2.2) (h : st s (((p : Int), pl) :: S) C) (hx : RX τ x s) (h1 : S.length + 2 * τ 14 p ≤ 250) (h2 : C.length + τ 14 p ≤ 64) (c4 : τ 8 p = 4) : Out τ J S C (if (mt τ E n (prt τ p 0).toNat pl x).1 = .inl false then mt τ E n (prt τ p 1).toNat pl (mt τ E n (prt τ p 0).toNat pl x).2 else mt τ E n (prt τ p 0).toNat pl x) s (2 * τ 14 p) := by
  have w2 := hW.2.1
  have hp := ho.1
  obtain ⟨g1, g2, g3, -⟩ := hW.g4 hp c4
  have hb0 := hW.pb hp (k := 0) (by omega)
  have hb1 := hW.pb hp (k := 1) (by omega)
  have hs := (hW.sz hp).1
  have hge0 := hW.ge (p := (prt τ p 0).toNat) (by omega)
  have hge1 := hW.ge (p := (prt τ p 1).toNat) (by omega)
  have z0 : szo τ (prt τ p 0) = τ 14 (prt τ p 0).toNat := by unfold szo; rw [if_neg (by omega)]
  have z1 : szo τ (prt τ p 1) = τ 14 (prt τ p 1).toNat := by unfold szo; rw [if_neg (by omega)]
  have z2 : szo τ (prt τ p 2) = 0 := by unfold szo; rw [if_pos (by omega)]
  rw [z0, z1, z2] at hs
  have hps := pop_st h
  have hpx := pop_RX (n := S.length) hx
  have hstep := step_p h (by omega)
  have ho0 := ho.alt hW c4 (k := 0) (by omega)
  have ho1 := ho.alt hW c4 (k := 1) (by omega)
  generalize pop s S.length = t at *
  have e8 := hpx.1.row (r := 8) (by omega) (by omega)
  have e11 := hpx.1.row (r := 11) (by omega) (by omega)
  have hpp : ((p : Int)).toNat = p := by omega
  have e34 := hps.1.2.1
  have e38 := hps.1.2.2.2
  have hCC : ((C.length : Nat) : Int).toNat = C.length := by omega
  -- with the choice told
  have hbx : RX τ x (up2 (up2 (up2 (up2 t 30 C.length S.length) 31 C.length (prt τ p 1)) 32 C.length pl) 0 38 ((C.length : Int) + 1)) := (((hpx.up (Or.inl (by omega))).up (Or.inl (by omega))).up (Or.inl (by omega))).up (Or.inr (Or.inr ⟨rfl, by decide⟩))
  have hbs : st (up2 (up2 (up2 (up2 t 30 C.length S.length) 31 C.length (prt τ p 1)) 32 C.length pl) 0 38 ((C.length : Int) + 1)) S (((S.length : Int), prt τ p 1, pl) :: C) := by
    refine ⟨hp_up (hp_up (hp_up (hp_up hps.1.1 (Or.inl (by omega))) (Or.inl (by omega))) (Or.inl (by omega))) (Or.inl (by omega)), ?_, ⟨?_, ?_, ?_, chs_up (chs_up (chs_up (chs_up hps.1.2.2.1 (Or.inr (Nat.le_refl _))) (Or.inr (Nat.le_refl _))) (Or.inr (Nat.le_refl _))) (Or.inl (by omega))⟩, ?_⟩
    · rw [up2_idx (by omega), up2_row (by omega), up2_row (by omega), up2_row (by omega)]; exact e34
    · rw [up2_row (by omega), up2_row (by omega), up2_row (by omega), up2_at rfl rfl]
    · rw [up2_row (by omega), up2_row (by omega), up2_at rfl rfl]
    · rw [up2_row (by omega), up2_at rfl rfl]
    · rw [up2_at rfl rfl, List.length_cons]; omega
  have hm : F_X11_matches p pl t = some (0, pu (pu (up2 (up2 (up2 (up2 t 30 C.length S.length) 31 C.length (prt τ p 1)) 32 C.length pl) 0 38 ((C.length : Int) + 1)) (-1) 0) (prt τ p 0) pl) := by
    unfold F_X11_matches
    rw [rdn_ok (by omega) (by omega), Option.bind_some, hpp, e8, if_neg (by omega), if_neg (by omega), if_pos c4, e38, e34, wrn_ok (by omega) (by omega), Option.bind_some, hCC, wrap_id (z := 3 * (p : Int)) (by omega) (by omega), wrap_id (z := 3 * (p : Int) + 1) (by omega) (by omega), rdn_ok (by omega) (by omega), Option.bind_some, up2_row (by omega), up2_row (by omega), show (3 * (p : Int) + 1).toNat = 3 * p + 1 by omega, e11, e38, wrn_ok (by omega) (by omega), Option.bind_some, hCC, up2_row (by omega), up2_row (by omega), e38, wrn_ok (by omega) (by omega), Option.bind_some, hCC, bnd_eq, up2_row (by omega), up2_row (by omega), up2_row (by omega), e38, wrap_id (by omega) (by omega)]
    show (F_X11_push (-1) 0 (up2 (up2 (up2 (up2 t 30 C.length S.length) 31 C.length (prt τ p 1)) 32 C.length pl) 0 38 ((C.length : Int) + 1))).bind _ = _
    rw [push_c (by have := hbs.2.1; omega), Option.bind_some]
    have hst1 := st_pu (a := -1) (b := 0) hbs
    have hrx1 := RX_pu (a := -1) (b := 0) hbx
    generalize pu (up2 (up2 (up2 (up2 t 30 C.length S.length) 31 C.length (prt τ p 1)) 32 C.length pl) 0 38 ((C.length : Int) + 1)) (-1) 0 = u at *
    rw [rdn_ok (by omega) (by omega), Option.bind_some, show (3 * (p : Int)).toNat = 3 * p + 0 by omega, hrx1.1.row (r := 11) (by omega) (by omega)]
    show (F_X11_push (prt τ p 0) pl u).bind _ = _
    rw [push_c (by have := hst1.2.1; rw [List.length_cons] at this; omega), Option.bind_some]
  rw [hm, Option.bind_some, b124_0] at hstep
  have hst0 := st_pu (a := prt τ p 0) (b := pl) (st_pu (a := -1) (b := 0) hbs)
  have hrx0 := RX_pu (a := prt τ p 0) (b := pl) (RX_pu (a := -1) (b := 0) hbx)
  generalize pu (pu (up2 (up2 (up2 (up2 t 30 C.length S.length) 31 C.length (prt τ p 1)) 32 C.length pl) 0 38 ((C.length : Int) + 1)) (-1) 0) (prt τ p 0) pl = u at *
  rw [show prt τ p 0 = (((prt τ p 0).toNat : Nat) : Int) by omega] at hst0
  obtain ⟨o0, o1, o2, o3⟩ := ih _ pl x u _ _ ho0 (by omega) hJ hst0 hrx0 (by rw [List.length_cons]; omega) (by rw [List.length_cons]; omega)
  by_cases c : (mt τ E n (prt τ p 0).toNat pl x).1 = .inl false
  · rw [if_pos c]
    obtain ⟨j, s1, s', a1, a2, a3, a4, a5, a6, a7⟩ := o2 c
    obtain ⟨s2, b1, b2, b3⟩ := turn_c a4.2.2 a5 (by rw [List.length_cons] at a6; omega) (by omega) (by omega)
    rw [b1] at a3
    rw [show prt τ p 1 = (((prt τ p 1).toNat : Nat) : Int) by omega] at b2
    have := ih _ pl _ s2 S C ho1 (by omega) o0 b2 (b3 _ _ a7) (by omega) (by omega)
    exact (this.pre (a2.snoc a3) (Int.le_refl _)).pre (Rch.one hstep) (by omega)
  · rw [if_neg c]
    refine Out.pre (k := 2 * τ 14 (prt τ p 0).toNat + 1) ⟨o0, fun q => ?_, fun q => absurd q c, fun a q => ?_⟩ (Rch.one hstep) (by omega)
    · obtain ⟨j, s', a1, a2, a3, a4⟩ := o1 q
      obtain ⟨s2, b1, b2, b3⟩ := step_m a3 (by omega) (by omega)
      exact ⟨j + 1, s2, by omega, a2.snoc b1, b2, b3 _ _ a4⟩
    · obtain ⟨j, s1, s', a1, a2⟩ := o3 a q
      exact ⟨j, s1, s', by omega, a2⟩
set_option maxHeartbeats 4000000 in
theorem view_c {τ : Sg} {E : EnvQ} {J : List (Int × Int × Int) → Prop} {n : Nat} (hW : WFP τ) (hE : EnvOK τ E J) (ih : MatchAt τ E J n) (p : Nat) (pl : Int) (x : XS) (s : Sg) (S : List (Int × Int)) (C : List (Int × Int × Int)) (ho : okP τ E.1 p pl) (hn : τ 14 p ≤ n + 1) (hJ : J x.2.2) (h : st s (((p : Int), pl) :: S) C) (hx : RX τ x s) (h1 : S.length + 2 * τ 14 p ≤ 250) (h2 : C.length + τ 14 p ≤ 64) (c5 : τ 8 p = 5) : Out τ J S C (if (E.2.1 (τ 9 p) pl x).1 = -9 then (.inr (4, pl, τ 9 p), (E.2.1 (τ 9 p) pl x).2) else mt τ E n (prt τ p 0).toNat (-1 - (E.2.1 (τ 9 p) pl x).1) (E.2.1 (τ 9 p) pl x).2) s (2 * τ 14 p) := by
  obtain ⟨hE1, hE2, hE3⟩ := hE
  have w2 := hW.2.1
  have hp := ho.1
  obtain ⟨g1, g2, g3, g4, g5, g6, g7⟩ := hW.g5 hp c5
  have hb := hW.pb hp (k := 0) (by omega)
  obtain ⟨-, -, hsz⟩ := sz_part hW hp (k := 0) (by omega) (by omega)
  have hge := hW.ge (p := (prt τ p 0).toNat) (by omega)
  have hps := pop_st h
  have hpx := pop_RX (n := S.length) hx
  have hstep := step_p h (by omega)
  have hop := ho.pl (by omega)
  generalize pop s S.length = t at *
  have e8 := hpx.1.row (r := 8) (by omega) (by omega)
  have e9 := hpx.1.row (r := 9) (by omega) (by omega)
  have hpp : ((p : Int)).toNat = p := by omega
  obtain ⟨t', q1, q2, q3, q4, q5, q6, q7⟩ := hE2 (τ 9 p) pl x t hpx hJ g1.1 g1.2 hop.1 hop.2.1 hop.2.2.1
  have hs' : st t' S C := ⟨hp_congr (q4 28 (by omega) (by omega)) (q4 29 (by omega) (by omega)) hps.1.1, by rw [q5]; exact hps.1.2.1, chs_congr (q4 30 (by omega) (by omega)) (q4 31 (by omega) (by omega)) (q4 32 (by omega) (by omega)) hps.1.2.2.1, by rw [q6]; exact hps.1.2.2.2⟩
  have t9 := q2.1.row (r := 9) (by omega) (by omega)
  have t11 := q2.1.row (r := 11) (by omega) (by omega)
  have hm0 : F_X11_matches p pl t = (F_X11_gave (τ 9 p) pl t).bind fun q32 => if q32.1 = (-9) then bnd (up2 q32.2 0 42 4) fun s38 => (rdn 60 s38 9 p).bind fun v40 => bnd (up2 s38 0 43 v40) fun s42 => bnd (up2 s42 0 44 pl) fun s44 => some (2, s44) else (rdn 180 q32.2 11 (wrap (3 * (p : Int)))).bind fun v34 => (F_X11_push v34 (wrap ((-1) - q32.1)) q32.2).bind fun q36 => some (0, q36) := by
    unfold F_X11_matches
    rw [rdn_ok (by omega) (by omega), Option.bind_some, hpp, e8, if_neg (by omega), if_neg (by omega), if_neg (by omega), if_pos c5, rdn_ok (by omega) (by omega), Option.bind_some, hpp, e9]
  rw [q1, Option.bind_some] at hm0
  by_cases c9 : (E.2.1 (τ 9 p) pl x).1 = -9
  · dsimp only at hm0
    rw [if_pos c9, bnd_eq, rdn_ok (by omega) (by omega), Option.bind_some, bnd_eq, bnd_eq, up2_row (by omega), hpp, t9] at hm0
    rw [hm0, Option.bind_some, b124_2] at hstep
    rw [if_pos c9]
    refine ⟨q3, (fun q => by cases q), (fun q => by cases q), fun a q => ?_⟩
    cases q
    refine ⟨0, s, up2 (up2 (up2 t' 0 42 4) 0 43 (τ 9 p)) 0 44 pl, by simp; omega, Rch.nil, hstep, ((q2.up (Or.inr (Or.inr ⟨rfl, by decide⟩))).up (Or.inr (Or.inr ⟨rfl, by decide⟩))).up (Or.inr (Or.inr ⟨rfl, by decide⟩)), fun q => absurd q (by show ¬ (4 : Int) = 3; omega), fun _ => ⟨?_, ?_, ?_⟩⟩
    · rw [up2_idx (by omega), up2_idx (by omega), up2_at rfl rfl]
    · rw [up2_at rfl rfl]
    · rw [up2_idx (by omega), up2_at rfl rfl]
  · have hd : 0 ≤ (E.2.1 (τ 9 p) pl x).1 ∧ (E.2.1 (τ 9 p) pl x).1 ≤ 9 := by rcases q7 with q | q <;> omega
    have ho' := ho.view hW c5 hd
    dsimp only at hm0
    rw [if_neg c9, wrap_id (by omega) (by omega), rdn_ok (by omega) (by omega), Option.bind_some, show (3 * (p : Int)).toNat = 3 * p + 0 by omega, t11, wrap_id (by omega) (by omega)] at hm0
    have hm : F_X11_matches p pl t = some (0, pu t' (prt τ p 0) (-1 - (E.2.1 (τ 9 p) pl x).1)) := by
      rw [hm0]
      show (F_X11_push (prt τ p 0) _ t').bind _ = _
      rw [push_c (by have := hs'.2.1; omega), Option.bind_some]
    rw [hm, Option.bind_some, b124_0] at hstep
    rw [if_neg c9]
    have hst := st_pu (a := prt τ p 0) (b := -1 - (E.2.1 (τ 9 p) pl x).1) hs'
    rw [show prt τ p 0 = (((prt τ p 0).toNat : Nat) : Int) by omega] at hst hstep
    have := ih (prt τ p 0).toNat (-1 - (E.2.1 (τ 9 p) pl x).1) (E.2.1 (τ 9 p) pl x).2 _ S C ho' (by omega) q3 hst (RX_pu q2) (by omega) (by omega)
    exact this.pre (Rch.one hstep) (by omega)
theorem match_c {τ : Sg} {E : EnvQ} {J : List (Int × Int × Int) → Prop} (hW : WFP τ) (hF : WFK (τ 1) (τ 2) (τ 3)) (hH : HOK τ E.1) (hE : EnvOK τ E J) : ∀ n, MatchAt τ E J n
  | 0 => fun p pl x s S C ho hn _ _ _ _ _ => by have := hW.ge ho.1; omega
  | n + 1 => fun p pl x s S C ho hn hJ h hx h1 h2 => by
    have ih := match_c hW hF hH hE n
    have hn' : τ 14 p ≤ n + 1 := by omega
    show Out τ J S C (mtG τ E (mt τ E n) p pl x) s (2 * τ 14 p)
    by_cases c0 : τ 8 p = 0
    · have w2 := hW.2.1
      have hp := ho.1
      have hge := hW.ge hp
      have hps := pop_st h
      have hpx := pop_RX (n := S.length) hx
      have hstep := step_p h (by omega)
      have e8 := hpx.1.row (r := 8) (by omega) (by omega)
      have hm : F_X11_matches p pl (pop s S.length) = some (0, pop s S.length) := by
        unfold F_X11_matches
        rw [rdn_ok (by omega) (by omega), Option.bind_some, show ((p : Int)).toNat = p by omega, e8, if_pos c0]
      rw [hm, Option.bind_some, b124_0] at hstep
      unfold mtG
      rw [if_pos c0]
      exact ⟨hJ, fun _ => ⟨1, _, by omega, Rch.one hstep, hps.1, hpx⟩, (fun q => by cases q), (fun a q => by cases q)⟩
    by_cases c1 : τ 8 p = 1
    · unfold mtG
      rw [if_neg c0, if_pos c1]
      exact name_c hW ih p pl x s S C ho hn' hJ h hx h1 h2 c1
    by_cases c4 : τ 8 p = 4
    · unfold mtG
      rw [if_neg c0, if_neg c1, if_pos c4]
      exact alt_c hW ih p pl x s S C ho hn' hJ h hx h1 h2 c4
    by_cases c5 : τ 8 p = 5
    · unfold mtG
      rw [if_neg c0, if_neg c1, if_neg c4, if_pos c5]
      exact view_c hW hE ih p pl x s S C ho hn' hJ h hx h1 h2 c5
    exact head_c hW hF hH hE ih p pl x s S C ho hn' hJ h hx h1 h2 c0 c1 c4 c5
