/-! the reference: the way to a place -/
def LB : Nat → Int
  | 0 => 3
  | b + 1 => 5 * LB b + 3
def wy (t : Sg) : Nat → Nat → Nat → Int → Int → Prop
  | 0, n, n', c, pl => n' = n ∧ c = pl
  | b + 1, n, n', c, pl => if pl ≤ 3 then n' = n ∧ c = pl else t 34 n = (pl - 1) % 5 ∧ wy t b (n + 1) n' c ((pl - 1) / 5)
theorem wy_congr {s t : Sg} : ∀ {b n n' : Nat} {c pl : Int}, (∀ i, n ≤ i → i < n' → t 34 i = s 34 i) → n ≤ n' → wy s b n n' c pl → wy t b n n' c pl
  | 0, n, n', c, pl, h, hn, q => q
  | b + 1, n, n', c, pl, h, hn, q => by
    unfold wy at *
    by_cases g : pl ≤ 3
    · rw [if_pos g] at *; exact q
    · rw [if_neg g] at *
      by_cases e : n = n'
      · subst e
        exfalso
        -- a way that is not at its end goes on
        have : ∀ (b m m' : Nat) (c pl : Int), wy s b m m' c pl → m ≤ m' := by
          intro b
          induction b with
          | zero => intro m m' c pl q; have := q.1; omega
          | succ b ih =>
            intro m m' c pl q
            unfold wy at q
            split at q
            · have := q.1; omega
            · have := ih _ _ _ _ q.2; omega
        have := this _ _ _ _ _ q.2
        omega
      · exact ⟨by rw [h n (by omega) (by omega)]; exact q.1, wy_congr (fun i i1 i2 => h i (by omega) i2) (by omega) q.2⟩
/-- a place proper -/
def prP : Nat → Int → Prop
  | 0, pl => 1 ≤ pl ∧ pl ≤ 3
  | b + 1, pl => (1 ≤ pl ∧ pl ≤ 3) ∨ (4 ≤ pl ∧ (pl - 1) % 5 ≤ 2 ∧ prP b ((pl - 1) / 5))
theorem kd_par {τ : Sg} {H : Int → Int} {pl : Int} (g : ¬ pl ≤ 3) (hk : 0 ≤ kd τ H pl) : ∃ a i : Int, 1 ≤ a ∧ (0 ≤ i ∧ i < 5) ∧ pl = 5 * a + i + 1 ∧ 0 ≤ kd τ H a := by
  by_cases h1 : 1 ≤ (pl - 1) / 5
  · refine ⟨(pl - 1) / 5, (pl - 1) % 5, h1, by omega, by omega, ?_⟩
    rw [show pl = 5 * ((pl - 1) / 5) + (pl - 1) % 5 + 1 by omega, kd_in h1 (by omega)] at hk
    unfold kdG at hk
    split at hk
    · omega
    · split at hk
      · omega
      · omega
  · exfalso
    have h0 : (pl - 1) / 5 = 0 := by omega
    unfold kd at hk
    obtain ⟨m, hm⟩ : ∃ m, pl.toNat + 1 = m + 1 + 1 := ⟨pl.toNat - 1, by omega⟩
    rw [hm, kdF, if_neg g, h0, kdF, if_pos (by omega), if_neg (by omega)] at hk
    unfold kdG at hk
    rw [if_neg (by omega), if_neg (by omega)] at hk
    omega
theorem kd_pr {τ : Sg} {H : Int → Int} (hF : WFK (τ 1) (τ 2) (τ 3)) (hH : HOK τ H) : ∀ (b : Nat) (pl : Int), 1 ≤ pl → pl ≤ LB b → pl ≤ 468 → 0 ≤ kd τ H pl → prP b pl
  | 0, pl, h1, h2, _, _ => ⟨h1, h2⟩
  | b + 1, pl, h1, h2, h4, hk => by
    by_cases g : pl ≤ 3
    · exact Or.inl ⟨h1, g⟩
    · obtain ⟨a, i, ha, hi, e, hka⟩ := kd_par g hk
      have h2' : pl ≤ 5 * LB b + 3 := h2
      have hi2 : i ≤ 2 := by
        rw [e, kd_in ha hi] at hk
        unfold kdG at hk
        by_cases c5 : kd τ H a = 5
        · rw [if_pos c5] at hk
          split at hk
          · have h9 : ¬ H a = -9 := by omega
            have := (hH a ha (by omega) hka h9).2.2.1 c5
            omega
          · omega
        · rw [if_neg c5] at hk
          split at hk
          · split at hk
            · rename_i c3 cc
              have hft := hF.2 (kd τ H a).toNat (H a).toNat (by omega) (by omega)
              have : (4 * kd τ H a + H a).toNat = 4 * (kd τ H a).toNat + (H a).toNat := by omega
              rw [this] at cc
              omega
            · omega
          · omega
      refine Or.inr ⟨by omega, by omega, ?_⟩
      rw [show (pl - 1) / 5 = a by omega]
      exact kd_pr hF hH b a ha (by omega) (by omega) hka
theorem wayLoop {b : Nat} : ∀ (n : Nat) (pl : Int) (s : Sg), prP b pl → n + b ≤ 7 → ∃ (n' : Nat) (c : Int) (s' : Sg) (j : Nat), Rch (fun a : (Int × Int × Sg) => L_X11_wayTo_4 a.1 a.2.1 a.2.2) j ((n : Int), pl, s) ((n' : Int), c, s') ∧ j ≤ b ∧ n ≤ n' ∧ n' ≤ n + b ∧ (1 ≤ c ∧ c ≤ 3) ∧ wy s' b n n' c pl ∧ (∀ r, ¬ r = 34 → s' r = s r) ∧ (∀ i, i < n → s' 34 i = s 34 i) := by
  induction b with
  | zero =>
    intro n pl s h1 h3
    exact ⟨n, pl, s, 0, Rch.nil, by omega, by omega, by omega, h1, ⟨rfl, rfl⟩, fun _ _ => rfl, fun _ _ => rfl⟩
  | succ b ih =>
    intro n pl s h1 h3
    rcases h1 with g | ⟨g1, g2, g3⟩
    · exact ⟨n, pl, s, 0, Rch.nil, by omega, by omega, by omega, g, by unfold wy; rw [if_pos g.2]; exact ⟨rfl, rfl⟩, fun _ _ => rfl, fun _ _ => rfl⟩
    · have hbig : pl ≤ 1000000 := by
        have : ∀ (b : Nat) (q : Int), prP b q → q ≤ LB b := by
          intro b
          induction b with
          | zero => intro q hq; exact hq.2
          | succ b ih =>
            intro q hq
            have hp : 0 ≤ LB b := by
              have : ∀ b : Nat, 3 ≤ LB b := by
                intro b
                induction b with
                | zero => exact Int.le_refl _
                | succ b ih => show 3 ≤ 5 * LB b + 3; omega
              have := this b; omega
            show q ≤ 5 * LB b + 3
            rcases hq with z | ⟨z1, z2, z3⟩
            · omega
            · have := ih _ z3; omega
        have h8 := this b _ g3
        have : ∀ b : Nat, b ≤ 6 → LB b ≤ 100000 := by
          intro b hb
          have : b = 0 ∨ b = 1 ∨ b = 2 ∨ b = 3 ∨ b = 4 ∨ b = 5 ∨ b = 6 := by omega
          rcases this with rfl | rfl | rfl | rfl | rfl | rfl | rfl <;> decide
        have h7 := this b (by omega)
        omega
      obtain ⟨n', c, s', j, r1, r2, r3, r4, r5, r6, r7, r8⟩ := ih (n + 1) ((pl - 1) / 5) (up2 s 34 n ((pl - 1) % 5)) g3 (by omega)
      have hstep : L_X11_wayTo_4 (n : Int) pl s = some (.inl (((n + 1 : Nat) : Int), (pl - 1) / 5, up2 s 34 n ((pl - 1) % 5))) := by
        unfold L_X11_wayTo_4
        rw [if_neg (by omega), wrap_id (z := pl - 1) (by omega) (by omega), wrn_ok (by omega) (by omega), Option.bind_some, bnd_eq, wrap_id (by omega) (by omega)]
        unfold jrem jdiv
        rw [Int.tmod_eq_emod_of_nonneg (by omega), Int.tdiv_eq_ediv_of_nonneg (by omega), wrap_id (by omega) (by omega), show ((n : Nat) : Int).toNat = n by omega, show (n : Int) + 1 = ((n + 1 : Nat) : Int) by omega]
      refine ⟨n', c, s', j + 1, Rch.cons (f := fun a : (Int × Int × Sg) => L_X11_wayTo_4 a.1 a.2.1 a.2.2) hstep r1, by omega, by omega, by omega, r5, ?_, fun r hr => by rw [r7 r hr]; funext i; rw [up2_row hr], fun i hi => by rw [r8 i (by omega), up2_idx (by omega)]⟩
      unfold wy
      rw [if_neg (by omega)]
      exact ⟨by rw [r8 n (by omega), up2_at rfl rfl], r6⟩
theorem wayTo_c {pl : Int} {s : Sg} (h : prP 3 pl) : ∃ (n' : Nat) (c : Int) (s' : Sg), F_X11_wayTo pl s = some ((n' : Int), s') ∧ n' ≤ 3 ∧ (1 ≤ c ∧ c ≤ 3) ∧ wy s' 3 0 n' c pl ∧ s' 34 n' = c - 1 ∧ ∀ r, ¬ r = 34 → s' r = s r := by
  obtain ⟨n', c, s', j, r1, r2, r3, r4, r5, r6, r7, r8⟩ := wayLoop (b := 3) 0 pl s h (by omega)
  refine ⟨n', c, up2 s' 34 n' (c - 1), ?_, by omega, r5, wy_congr (fun i i1 i2 => by rw [up2_idx (by omega)]) (by omega) r6, by rw [up2_at rfl rfl], fun r hr => by rw [← r7 r hr]; funext i; rw [up2_row hr]⟩
  unfold F_X11_wayTo
  rw [show ((0 : Nat) : Int) = 0 from rfl] at r1
  rw [r1.fin (z := ((n' : Int), c, s')) (by
    show L_X11_wayTo_4 n' c s' = _
    unfold L_X11_wayTo_4; rw [if_pos (by omega)]) (by omega), Option.bind_some]
  dsimp only
  rw [wrap_id (by omega) (by omega), wrn_ok (by omega) (by omega), Option.bind_some, show ((n' : Nat) : Int).toNat = n' by omega]
/-! the value at a place -/
def vaF (τ : Sg) : Nat → Int → Int
  | 0, _ => 0
  | n + 1, pl => if pl ≤ 3 then τ 35 (pl - 1).toNat else (if τ 4 (vaF τ n ((pl - 1) / 5)).toNat = 5 then -1 - τ 6 (3 * vaF τ n ((pl - 1) / 5) + (pl - 1) % 5).toNat else τ 6 (3 * vaF τ n ((pl - 1) / 5) + (pl - 1) % 5).toNat)
def va (τ : Sg) (pl : Int) : Int := vaF τ (pl.toNat + 1) pl
theorem vaF_fuel {τ : Sg} : ∀ (b n m : Nat) (pl : Int), pl.toNat ≤ b → b < n → b < m → vaF τ n pl = vaF τ m pl
  | b, 0, m, pl, _, h, _ => by omega
  | b, n, 0, pl, _, _, h => by omega
  | b, n + 1, m + 1, pl, h1, h2, h3 => by
    unfold vaF
    by_cases c : pl ≤ 3
    · rw [if_pos c, if_pos c]
    · rw [if_neg c, if_neg c, vaF_fuel (b - 1) n m ((pl - 1) / 5) (by omega) (by omega) (by omega)]
theorem va_col {τ : Sg} {pl : Int} (h3 : pl ≤ 3) : va τ pl = τ 35 (pl - 1).toNat := by
  unfold va vaF; rw [if_pos h3]
theorem va_in {τ : Sg} {pl i : Int} (h : 1 ≤ pl) (hi : 0 ≤ i ∧ i < 5) : va τ (5 * pl + i + 1) = if τ 4 (va τ pl).toNat = 5 then -1 - τ 6 (3 * va τ pl + i).toNat else τ 6 (3 * va τ pl + i).toNat := by
  unfold va
  rw [show (5 * pl + i + 1).toNat + 1 = (5 * pl + i).toNat + 1 + 1 by omega]
  rw [vaF, if_neg (by omega), show (5 * pl + i + 1 - 1) / 5 = pl by omega, show (5 * pl + i + 1 - 1) % 5 = i by omega]
  rw [vaF_fuel pl.toNat ((5 * pl + i).toNat + 1) (pl.toNat + 1) pl (by omega) (by omega) (by omega)]
def hdR (τ : Sg) (pl : Int) : Int := if va τ pl < 0 then -1 - va τ pl else τ 5 (va τ pl).toNat
def msR (τ : Sg) (pl : Int) : Int := if va τ pl < 0 then -1 - va τ pl else τ 7 (va τ pl).toNat
/-- the columns' values are given -/
def GV (τ : Sg) : Prop := ∀ k : Nat, (k : Int) < τ 0 21 → 0 ≤ τ 35 k ∧ τ 35 k < τ 0 4 ∧ τ 4 (τ 35 k).toNat = τ 19 k
theorem va_ok {τ : Sg} (hF : WFK (τ 1) (τ 2) (τ 3)) (hV : WFV τ) (hM : WFM τ) (hG : GV τ) : ∀ (b : Nat) (pl : Int), pl.toNat ≤ b → 1 ≤ pl → 0 ≤ kd τ (hdR τ) pl → (va τ pl < 0 → kd τ (hdR τ) pl = 4 ∧ -10 ≤ va τ pl) ∧ (0 ≤ va τ pl → va τ pl < τ 0 4 ∧ τ 4 (va τ pl).toNat = kd τ (hdR τ) pl) := by
  intro b
  induction b with
  | zero => intro pl h1 h2; omega
  | succ b ih =>
    intro pl h1 h2 hk
    by_cases g : pl ≤ 3
    · have hc : pl ≤ τ 0 21 := by
        unfold kd kdF at hk
        rw [if_pos g] at hk
        split at hk
        · omega
        · omega
      rw [kd_col ⟨h2, hc⟩ g, va_col g]
      obtain ⟨a1, a2, a3⟩ := hG (pl - 1).toNat (by omega)
      exact ⟨fun q => by omega, fun _ => ⟨a2, a3⟩⟩
    · obtain ⟨a, i, ha, hi, e, -⟩ := kd_par g hk
      subst e
      rw [kd_in ha hi] at hk ⊢
      rw [va_in ha hi]
      have hih := ih a (by omega) ha
      unfold kdG at hk ⊢
      by_cases c5 : kd τ (hdR τ) a = 5
      · rw [if_pos c5] at hk ⊢
        obtain ⟨b1, b2⟩ := hih (by omega)
        have hnn : 0 ≤ va τ a := Classical.byContradiction fun q => by have := (b1 (by omega)).1; omega
        obtain ⟨b3, b4⟩ := b2 hnn
        have hh : hdR τ a = τ 5 (va τ a).toNat := by unfold hdR; rw [if_neg (by omega)]
        by_cases ci : i < hdR τ a
        · rw [if_pos ci, if_pos (by omega)]
          obtain ⟨v1, v2, v3, v4, v5, v6, v7, v8⟩ := hV.2.2 (va τ a).toNat (by omega)
          obtain ⟨u1, u2⟩ := v7 (by omega)
          obtain ⟨u3, u4⟩ := u2 i.toNat (by omega)
          rw [show (3 * va τ a + i).toNat = 3 * (va τ a).toNat + i.toNat by omega]
          exact ⟨fun _ => ⟨rfl, by omega⟩, fun q => by omega⟩
        · rw [if_neg ci] at hk; omega
      · rw [if_neg c5] at hk ⊢
        by_cases c3 : 0 ≤ kd τ (hdR τ) a ∧ kd τ (hdR τ) a ≤ 3
        · rw [if_pos c3] at hk ⊢
          obtain ⟨b1, b2⟩ := hih c3.1
          have hnn : 0 ≤ va τ a := Classical.byContradiction fun q => by have := (b1 (by omega)).1; omega
          obtain ⟨b3, b4⟩ := b2 hnn
          have hh : hdR τ a = τ 5 (va τ a).toNat := by unfold hdR; rw [if_neg (by omega)]
          split at hk
          · rename_i cc
            rw [if_pos cc, if_neg (by omega)]
            obtain ⟨v1, v2, v3, v4, v5, v6, v7, v8⟩ := hV.2.2 (va τ a).toNat (by omega)
            obtain ⟨u1, u2⟩ := v8 (by omega)
            have hidx : (4 * kd τ (hdR τ) a + hdR τ a).toNat = 4 * (τ 4 (va τ a).toNat).toNat + (τ 5 (va τ a).toNat).toNat := by omega
            obtain ⟨u3, u4, u5⟩ := u2 i.toNat (by rw [← hidx]; omega)
            rw [show (3 * va τ a + i).toNat = 3 * (va τ a).toNat + i.toNat by omega]
            refine ⟨fun q => by omega, fun _ => ⟨by omega, ?_⟩⟩
            rw [u5]
            exact congrArg (τ 3) (by omega)
          · omega
        · rw [if_neg c3] at hk; omega
theorem HOK_R {τ : Sg} (hF : WFK (τ 1) (τ 2) (τ 3)) (hV : WFV τ) (hM : WFM τ) (hG : GV τ) : HOK τ (hdR τ) := by
  intro pl h1 h2 h3 h4
  obtain ⟨a1, a2⟩ := va_ok hF hV hM hG pl.toNat pl (Nat.le_refl _) h1 h3
  generalize kd τ (hdR τ) pl = k at *
  unfold hdR
  by_cases c : va τ pl < 0
  · rw [if_pos c]
    obtain ⟨b1, b2⟩ := a1 c
    exact ⟨by omega, by omega, fun q => by omega, fun q => by omega⟩
  · rw [if_neg c]
    obtain ⟨b1, b2⟩ := a2 (by omega)
    obtain ⟨v1, v2, v3, v4, v5, v6, v7, v8⟩ := hV.2.2 (va τ pl).toNat (by omega)
    generalize τ 5 (va τ pl).toNat = hh at *
    generalize τ 4 (va τ pl).toNat = kk at *
    subst b2
    have hk5 := v2
    by_cases k4 : kk = 4
    · have := (v6 k4).1
      exact ⟨v5, by omega, fun q => by omega, fun q => by omega⟩
    · by_cases k5 : kk = 5
      · have := (v7 k5).1
        exact ⟨v5, by omega, fun q => by omega, fun q => by omega⟩
      · have := (v8 (by omega)).1
        have hf4 := (hF.1 kk.toNat (by omega)).2
        exact ⟨v5, by omega, fun q => by omega, fun q => this⟩
