/-! the reference: the kind of a place; the plain order by what is known -/
theorem factK {τ s : Sg} {pf : Nat → Pth} {N n : Nat} {pl : Int} (hR : RTs s pf N) (hn : n < N) (hK : KP τ (pf n)) (h40 : s 0 40 = 0) (h41 : s 0 41 = n) (hp : 0 ≤ pl) : F_X11_factAt pl s = some (hk (pf n) pl, s) := by
  have h512 := hR.1
  obtain ⟨j, j1, j2⟩ := fact_l (pl := pl) hR n (-9) hn
  unfold F_X11_factAt
  rw [if_pos hp, if_pos h40, bnd_eq, h41, j2.fin (z := hkF pl (-9) (pf n)) (by
    show L_X11_factAt_29 pl s (hkF pl (-9) (pf n)) 0 = _
    unfold L_X11_factAt_29; rw [if_pos (by omega)]) (by omega), Option.bind_some, hkF_eq hK]
  by_cases c : hk (pf n) pl = -9
  · rw [if_pos c, c]
  · rw [if_neg c]
theorem wy_le {t : Sg} : ∀ (b m m' : Nat) (c pl : Int), wy t b m m' c pl → m ≤ m' := by
  intro b
  induction b with
  | zero => intro m m' c pl q; have := q.1; omega
  | succ b ih =>
    intro m m' c pl q
    unfold wy at q
    split at q
    · have := q.1; omega
    · have := ih _ _ _ _ q.2; omega
theorem kindL {τ t : Sg} {P : Pth} (hF : WFK (τ 1) (τ 2) (τ 3)) (hH : HOK τ (hk P)) (t3 : t 3 = τ 3) (hE : ∀ pl, 0 ≤ pl → F_X11_factAt pl t = some (hk P pl, t)) : ∀ (b n n' : Nat) (c pl : Int), wy t b n n' c pl → prP b pl → pl ≤ 468 → 0 ≤ kd τ (hk P) pl → n' ≤ 7 → ∃ j, j ≤ b ∧ Rch (fun a : (Int × Int × Int × Sg) => L_X11_kindOf_33 a.1 a.2.1 a.2.2.1 a.2.2.2) j (τ 19 (c - 1).toNat, c, (n' : Int) - 1, t) (kd τ (hk P) pl, pl, (n : Int) - 1, t)
  | 0, n, n', c, pl, hw, hp, h4, hk0, h7 => by
    obtain ⟨h1, h2⟩ := hw
    subst h1; subst h2
    refine ⟨0, Nat.le_refl _, ?_⟩
    have hcol : c ≤ τ 0 21 := by
      unfold kd kdF at hk0
      rw [if_pos hp.2] at hk0
      split at hk0 <;> omega
    rw [kd_col ⟨hp.1, hcol⟩ hp.2]
    exact Rch.nil
  | b + 1, n, n', c, pl, hw, hp, h4, hk0, h7 => by
    unfold wy at hw
    by_cases g : pl ≤ 3
    · rw [if_pos g] at hw
      obtain ⟨h1, h2⟩ := hw
      subst h1; subst h2
      refine ⟨0, Nat.zero_le _, ?_⟩
      have h1c : 1 ≤ c := by
        rcases hp with z | z <;> omega
      have hcol : c ≤ τ 0 21 := by
        unfold kd kdF at hk0
        rw [if_pos g] at hk0
        split at hk0 <;> omega
      rw [kd_col ⟨h1c, hcol⟩ g]
      exact Rch.nil
    · rw [if_neg g] at hw
      obtain ⟨h1, h2⟩ := hw
      obtain ⟨p1, p2, p3⟩ : 4 ≤ pl ∧ (pl - 1) % 5 ≤ 2 ∧ prP b ((pl - 1) / 5) := by
        rcases hp with z | z
        · omega
        · exact z
      obtain ⟨a, i, ha, hi, e, hka⟩ := kd_par g hk0
      have ea : (pl - 1) / 5 = a := by omega
      have ei : (pl - 1) % 5 = i := by omega
      rw [ea] at h2 p3
      rw [ei] at h1 p2
      rw [e] at hk0
      have hnn := wy_le _ _ _ _ _ h2
      obtain ⟨j, j1, j2⟩ := kindL hF hH t3 hE b (n + 1) n' c a h2 p3 (by omega) hka h7
      have hstep : L_X11_kindOf_33 (kd τ (hk P) a) a (((n + 1 : Nat) : Int) - 1) t = some (.inl (kd τ (hk P) pl, pl, (n : Int) - 1, t)) := by
        have hkd : kd τ (hk P) pl = kdG τ (hk P) a i (kd τ (hk P) a) := by rw [e, kd_in ha hi]
        rw [kd_in ha hi] at hk0
        have hfa : ¬ hk P a = -9 := by
          intro z
          unfold kdG at hk0
          split at hk0
          · split at hk0 <;> omega
          · split at hk0
            · split at hk0 <;> omega
            · omega
        obtain ⟨r1, r2, r3, r4⟩ := hH a ha (by omega) hka hfa
        have f1 := hE a (by omega)
        unfold L_X11_kindOf_33 B_X11_kindOf_80
        rw [show ((n + 1 : Nat) : Int) - 1 = (n : Int) by omega, if_neg (by omega), rdn_ok (by omega) (by omega), Option.bind_some, show ((n : Int)).toNat = n by omega, h1, f1, Option.bind_some]
        clear f1
        dsimp only
        rw [wrap_id (z := 5 * a) (by omega) (by omega), wrap_id (z := 5 * a + i) (by omega) (by omega), wrap_id (z := 5 * a + i + 1) (by omega) (by omega), ← e, wrap_id (z := (n : Int) + (-1)) (by omega) (by omega), show (n : Int) + (-1) = (n : Int) - 1 by omega]
        rw [hkd]
        unfold kdG at hk0 ⊢
        by_cases c5 : kd τ (hk P) a = 5
        · rw [if_pos c5] at hk0 ⊢
          rw [if_pos c5, bnd_eq]
          have : i < hk P a := by
            split at hk0
            · assumption
            · omega
          rw [if_pos this]
        · rw [if_neg c5] at hk0 ⊢
          rw [if_neg c5]
          by_cases c3 : 0 ≤ kd τ (hk P) a ∧ kd τ (hk P) a ≤ 3
          · rw [if_pos c3] at hk0 ⊢
            have cc : 0 ≤ hk P a ∧ hk P a < τ 1 (kd τ (hk P) a).toNat ∧ i < τ 2 (4 * kd τ (hk P) a + hk P a).toNat := by
              split at hk0
              · assumption
              · omega
            have hf4 := (hF.1 (kd τ (hk P) a).toNat (by omega)).2
            rw [if_pos cc, wrap_id (z := 4 * kd τ (hk P) a) (by omega) (by omega), wrap_id (z := 4 * kd τ (hk P) a + hk P a) (by omega) (by omega), wrap_id (z := 3 * (4 * kd τ (hk P) a + hk P a)) (by omega) (by omega), wrap_id (z := 3 * (4 * kd τ (hk P) a + hk P a) + i) (by omega) (by omega), rdn_ok (by omega) (by omega), Option.bind_some, bnd_eq, t3]
          · rw [if_neg c3] at hk0; omega
      exact ⟨j + 1, by omega, j2.snoc (f := fun a : (Int × Int × Int × Sg) => L_X11_kindOf_33 a.1 a.2.1 a.2.2.1 a.2.2.2) hstep⟩
theorem kindOf_m {τ s : Sg} {pf : Nat → Pth} {N n : Nat} {pl : Int} (hF : WFK (τ 1) (τ 2) (τ 3)) (hM : WFM τ) (hR : RTs s pf N) (hn : n < N) (hK : KP τ (pf n)) (h40 : s 0 40 = 0) (h41 : s 0 41 = n) (s3 : s 3 = τ 3) (s19 : s 19 = τ 19) (h1 : 1 ≤ pl) (h2 : pl ≤ 468) (hk0 : 0 ≤ kd τ (hk (pf n)) pl) : ∃ s', F_X11_kindOf pl s = some (kd τ (hk (pf n)) pl, s') ∧ ∀ r, ¬ r = 34 → s' r = s r := by
  have hH := hK.hok hF hM
  have hp := kd_pr hF hH 3 pl h1 h2 h2 hk0
  obtain ⟨n', c, s', w1, w2, w3, w4, w5, w6⟩ := wayTo_c (s := s) hp
  have hE : ∀ pl, 0 ≤ pl → F_X11_factAt pl s' = some (hk (pf n) pl, s') := fun q hq => factK (hR.fr (fun r r1 r2 => w6 r (by omega))) hn hK (by rw [w6 0 (by omega)]; exact h40) (by rw [w6 0 (by omega)]; exact h41) hq
  obtain ⟨j, j1, j2⟩ := kindL (t := s') hF hH (by rw [w6 3 (by omega)]; exact s3) hE 3 0 n' c pl w4 hp h2 hk0 (by omega)
  refine ⟨s', ?_, w6⟩
  unfold F_X11_kindOf
  rw [w1, Option.bind_some]
  dsimp only
  rw [rdn_ok (by omega) (by omega), Option.bind_some, show ((n' : Nat) : Int).toNat = n' by omega, w5, rdn_ok (by omega) (by omega), Option.bind_some, w6 19 (by omega), s19, Option.bind_some, bnd_eq, wrap_id (by omega) (by omega), bnd_eq, wrap_id (by omega) (by omega), show c - 1 + 1 = c by omega, j2.fin (z := (kd τ (hk (pf n)) pl, s')) (by
    show L_X11_kindOf_33 (kd τ (hk (pf n)) pl) pl (((0 : Nat) : Int) - 1) s' = _
    unfold L_X11_kindOf_33; rw [if_pos (by omega)]) (by omega), Option.bind_some]
/-! the plain order at a node -/
def NodeAt (τ : Sg) (pf : Nat → Pth) (N n : Nat) : Prop := RTs τ pf N ∧ n < N ∧ KP τ (pf n) ∧ τ 0 40 = 0 ∧ τ 0 41 = n
theorem RX.rts {τ s : Sg} {x : XS} {pf : Nat → Pth} {N : Nat} (hx : RX τ x s) (h : RTs τ pf N) : RTs s pf N := h.fr (fun r r1 r2 => hx.1.row (by omega) (by omega))
set_option maxHeartbeats 4000000 in
theorem seek_l {τ : Sg} {pf : Nat → Pth} {N n : Nat} (hP : WFP τ) (hF : WFK (τ 1) (τ 2) (τ 3)) (hM : WFM τ) (hWW : WFW τ) (hN : NodeAt τ pf N n) {m : Nat} (hm : τ 0 23 = m) : ∀ (d c fu : Nat) (x : XS) (s : Sg), c + d = m → d + 1 < fu → RX τ x s → ∃ (x' : XS) (s' : Sg), RX τ x' s' ∧ x'.2 = x.2 ∧
    ((iter (fun a : (Int × Int × Bool × Sg) => L_X11_lay_13 a.1 a.2.1 a.2.2.1 a.2.2.2) fu ((c : Int), 1, true, s) = some ((m : Int), 1, true, s') ∧ seekS τ (pf n) d c = (2, 0, 0)) ∨
     (∃ c' : Nat, c' < m ∧ iter (fun a : (Int × Int × Bool × Sg) => L_X11_lay_13 a.1 a.2.1 a.2.2.1 a.2.2.2) fu ((c : Int), 1, true, s) = some ((c' : Int), 0, false, s') ∧ x'.1 = (tryK τ (pf n) c').2.1 ∧ seekS τ (pf n) d c = if τ 22 c' = -1 then (0, (c' : Int), 0) else (5, (c' : Int), 0)) ∨
     (∃ c' : Nat, c' < m ∧ iter (fun a : (Int × Int × Bool × Sg) => L_X11_lay_13 a.1 a.2.1 a.2.2.1 a.2.2.2) fu ((c : Int), 1, true, s) = some ((c' : Int), 2, false, s') ∧ askd s' (seekS τ (pf n) d c) ∧ AskOK τ (pf n) (seekS τ (pf n) d c)))
  | 0, c, fu, x, s, hcd, hfu, hx => by
    obtain ⟨fu, rfl⟩ : ∃ z, fu = z + 1 := ⟨fu - 1, by omega⟩
    refine ⟨x, s, hx, rfl, Or.inl ⟨?_, rfl⟩⟩
    rw [iter_r (f := fun a : (Int × Int × Bool × Sg) => L_X11_lay_13 a.1 a.2.1 a.2.2.1 a.2.2.2) (a := ((c : Int), 1, true, s)) (b := ((c : Int), 1, true, s)) (by
      show L_X11_lay_13 c 1 true s = _
      unfold L_X11_lay_13
      rw [if_pos rfl, hx.1.2 23 (by decide), if_pos (by omega)]), show c = m by omega]
  | d + 1, c, fu, x, s, hcd, hfu, hx => by
    obtain ⟨fu, rfl⟩ : ∃ z, fu = z + 1 := ⟨fu - 1, by omega⟩
    obtain ⟨hR, hn, hK, h40, h41⟩ := id hN
    have h8 := hM.2.1
    have hH := hK.hok hF hM
    have hE := envK_ok hWW hR hn hK h40 h41
    have hfail := hasFailed_m (c := c) (hx.rts hR) hn (by rw [hx.1.2 41 (by decide)]; exact h41)
    have next : ∀ (x1 : XS) (s1 : Sg), RX τ x1 s1 → x1.2 = x.2 → L_X11_lay_13 c 1 true s = some (.inl (((c + 1 : Nat) : Int), 1, true, s1)) → seekS τ (pf n) (d + 1) c = seekS τ (pf n) d (c + 1) → ∃ (x' : XS) (s' : Sg), RX τ x' s' ∧ x'.2 = x.2 ∧
    ((iter (fun a : (Int × Int × Bool × Sg) => L_X11_lay_13 a.1 a.2.1 a.2.2.1 a.2.2.2) (fu + 1) ((c : Int), 1, true, s) = some ((m : Int), 1, true, s') ∧ seekS τ (pf n) (d + 1) c = (2, 0, 0)) ∨
     (∃ c' : Nat, c' < m ∧ iter (fun a : (Int × Int × Bool × Sg) => L_X11_lay_13 a.1 a.2.1 a.2.2.1 a.2.2.2) (fu + 1) ((c : Int), 1, true, s) = some ((c' : Int), 0, false, s') ∧ x'.1 = (tryK τ (pf n) c').2.1 ∧ seekS τ (pf n) (d + 1) c = if τ 22 c' = -1 then (0, (c' : Int), 0) else (5, (c' : Int), 0)) ∨
     (∃ c' : Nat, c' < m ∧ iter (fun a : (Int × Int × Bool × Sg) => L_X11_lay_13 a.1 a.2.1 a.2.2.1 a.2.2.2) (fu + 1) ((c : Int), 1, true, s) = some ((c' : Int), 2, false, s') ∧ askd s' (seekS τ (pf n) (d + 1) c) ∧ AskOK τ (pf n) (seekS τ (pf n) (d + 1) c))) := by
      intro x1 s1 h1 h2 h3 h4
      obtain ⟨x', s', a1, a2, a3⟩ := seek_l hP hF hM hWW hN hm d (c + 1) fu x1 s1 (by omega) (by omega) h1
      rw [h4, iter_l (f := fun a : (Int × Int × Bool × Sg) => L_X11_lay_13 a.1 a.2.1 a.2.2.1 a.2.2.2) (a := ((c : Int), 1, true, s)) h3]
      exact ⟨x', s', a1, by rw [a2, h2], a3⟩
    have hw1 : wrap ((c : Int) + 1) = ((c + 1 : Nat) : Int) := by rw [wrap_id (z := (c : Int) + 1) (by omega) (by omega)]; omega
    have hw0 : wrap ((c : Int) + 0) = (c : Int) := by rw [wrap_id (z := (c : Int) + 0) (by omega) (by omega)]; omega
    have e1 : b2i true = 1 := rfl
    have e0 : b2i false = 0 := rfl
    have hunf : L_X11_lay_13 c 1 true s = if fk (pf n) c = true then B_X11_lay_43 c 1 s else (F_X11_tryCase c s).bind fun q5 => B_X11_lay_43 c q5.1 q5.2 := by
      unfold L_X11_lay_13
      rw [if_pos rfl, hx.1.2 23 (by decide), if_neg (by omega), hfail, Option.bind_some]
    clear hfail
    have b1 : ∀ s, B_X11_lay_43 c 1 s = some (.inl (((c + 1 : Nat) : Int), 1, true, s)) := fun s => by
      unfold B_X11_lay_43 B_X11_lay_56 B_X11_lay_69
      rw [if_pos rfl, if_pos rfl, bnd_eq, e1, hw1]
    have bn : ∀ t s, ¬ t = 1 → B_X11_lay_43 c t s = some (.inl ((c : Int), t, false, s)) := fun t s ht => by
      unfold B_X11_lay_43 B_X11_lay_56 B_X11_lay_69
      rw [if_neg ht, if_neg (by simp), bnd_eq, e0, hw0]
    by_cases g : fk (pf n) c = true
    · rw [if_pos g, b1] at hunf
      exact next x s hx rfl hunf (by rw [seekS, if_pos g])
    · rw [if_neg g] at hunf
      obtain ⟨s1, t1, t2, -, t4⟩ := try_c (c := c) (J := fun _ => True) hP hF hM hH hE (by omega) trivial hx
      obtain ⟨k1, k2, k3⟩ := tryK_x (τ := τ) (P := pf n) (c := c) (x := x)
      rw [t1, Option.bind_some] at hunf
      clear t1
      dsimp only at hunf
      rw [k1] at hunf t4
      have stop : ∀ t : Int, ¬ t = 1 → codeR (tryK τ (pf n) c).1 = t → iter (fun a : (Int × Int × Bool × Sg) => L_X11_lay_13 a.1 a.2.1 a.2.2.1 a.2.2.2) (fu + 1) ((c : Int), 1, true, s) = some ((c : Int), t, false, s1) := fun t ht hc => by
        rw [hc, bn t s1 ht] at hunf
        obtain ⟨fu, rfl⟩ : ∃ z, fu = z + 1 := ⟨fu - 1, by omega⟩
        rw [iter_l (f := fun a : (Int × Int × Bool × Sg) => L_X11_lay_13 a.1 a.2.1 a.2.2.1 a.2.2.2) (a := ((c : Int), 1, true, s)) hunf, iter_r (f := fun a : (Int × Int × Bool × Sg) => L_X11_lay_13 a.1 a.2.1 a.2.2.1 a.2.2.2) (a := ((c : Int), t, false, s1)) (b := ((c : Int), t, false, s1)) (by
          show L_X11_lay_13 c t false s1 = _
          unfold L_X11_lay_13; rw [if_neg (by simp)])]
      cases hr : (tryK τ (pf n) c).1 with
      | inl b =>
        cases b with
        | true =>
          refine ⟨(tryS τ (envK (pf n)) c x).2, s1, t2, k3, Or.inr (Or.inl ⟨c, by omega, stop 0 (by decide) (by rw [hr]; rfl), k2, ?_⟩)⟩
          rw [seekS, if_neg g, hr]
        | false =>
          rw [hr] at hunf
          have hunf' : L_X11_lay_13 c 1 true s = B_X11_lay_43 c 1 s1 := hunf
          rw [b1] at hunf'
          refine next _ s1 t2 k3 hunf' ?_
          rw [seekS, if_neg g, hr]
      | inr a =>
        have hsk : seekS τ (pf n) (d + 1) c = a := by rw [seekS, if_neg g, hr]
        refine ⟨(tryS τ (envK (pf n)) c x).2, s1, t2, k3, Or.inr (Or.inr ⟨c, by omega, stop 2 (by decide) (by rw [hr]; rfl), ?_, ?_⟩)⟩
        · rw [hsk]; exact t4 a hr
        · rw [hsk]; exact try_ask hP hF hM hH (hK.vok hWW) (by omega) hr
