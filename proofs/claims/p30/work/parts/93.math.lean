/-! the reference: what is at a place in a run -/
theorem va_nn {τ : Sg} {a i : Int} (hF : WFK (τ 1) (τ 2) (τ 3)) (hV : WFV τ) (hM : WFM τ) (hG : GV τ) (ha : 1 ≤ a) (hi : 0 ≤ i ∧ i < 5) (hk : 0 ≤ kd τ (hdR τ) (5 * a + i + 1)) : 0 ≤ kd τ (hdR τ) a ∧ 0 ≤ va τ a ∧ va τ a < τ 0 4 := by
  have hka : 0 ≤ kd τ (hdR τ) a ∧ ¬ kd τ (hdR τ) a = 4 := by
    rw [kd_in ha hi] at hk
    unfold kdG at hk
    split at hk
    · omega
    · split at hk <;> omega
  obtain ⟨b1, b2⟩ := va_ok hF hV hM hG a.toNat a (Nat.le_refl _) ha hka.1
  have hnn : 0 ≤ va τ a := Classical.byContradiction fun q => hka.2 (b1 (by omega)).1
  exact ⟨hka.1, hnn, (b2 hnn).1⟩
theorem valL {τ t : Sg} (hF : WFK (τ 1) (τ 2) (τ 3)) (hV : WFV τ) (hM : WFM τ) (hG : GV τ) (t4 : t 4 = τ 4) (t6 : t 6 = τ 6) : ∀ (b n n' : Nat) (c pl : Int), wy t b n n' c pl → prP b pl → 0 ≤ kd τ (hdR τ) pl → n' ≤ 7 → ∃ j, j ≤ b ∧ Rch (fun a : (Int × Int) => L_X11_valueAt_23 t a.1 a.2) j (τ 35 (c - 1).toNat, (n' : Int) - 1) (va τ pl, (n : Int) - 1)
  | 0, n, n', c, pl, hw, hp, hk, h7 => by
    obtain ⟨h1, h2⟩ := hw
    subst h1; subst h2
    refine ⟨0, Nat.le_refl _, ?_⟩
    rw [va_col hp.2]
    exact Rch.nil
  | b + 1, n, n', c, pl, hw, hp, hk, h7 => by
    have hv4 := hV.2.1
    unfold wy at hw
    by_cases g : pl ≤ 3
    · rw [if_pos g] at hw
      obtain ⟨h1, h2⟩ := hw
      subst h1; subst h2
      refine ⟨0, Nat.zero_le _, ?_⟩
      rw [va_col g]
      exact Rch.nil
    · rw [if_neg g] at hw
      obtain ⟨h1, h2⟩ := hw
      obtain ⟨p1, p2, p3⟩ : 4 ≤ pl ∧ (pl - 1) % 5 ≤ 2 ∧ prP b ((pl - 1) / 5) := by
        rcases hp with z | z
        · omega
        · exact z
      obtain ⟨a, i, ha, hi, e, hka⟩ := kd_par g hk
      have ea : (pl - 1) / 5 = a := by omega
      have ei : (pl - 1) % 5 = i := by omega
      rw [ea] at h2 p3
      rw [ei] at h1 p2
      rw [e] at hk
      obtain ⟨-, nn1, nn2⟩ := va_nn hF hV hM hG ha hi hk
      obtain ⟨j, j1, j2⟩ := valL hF hV hM hG t4 t6 b (n + 1) n' c a h2 p3 hka h7
      have hstep : L_X11_valueAt_23 t (va τ a) (((n + 1 : Nat) : Int) - 1) = some (.inl (va τ pl, (n : Int) - 1)) := by
        have hn8 : (n : Int) < 8 := by
          have : ∀ (b m m' : Nat) (c pl : Int), wy t b m m' c pl → m ≤ m' := by
            intro b
            induction b with
            | zero => intro m m' c pl q; have := q.1; omega
            | succ b ih =>
              intro m m' c pl q
              unfold wy at q
              split at q
              · have := q.1; omega
              · have := ih _ _ _ _ q.2; omega
          have := this _ _ _ _ _ h2; omega
        obtain ⟨v1, v2, v3, v4, v5, v6, v7, v8⟩ := hV.2.2 (va τ a).toNat (by omega)
        unfold L_X11_valueAt_23 B_X11_valueAt_65
        rw [show ((n + 1 : Nat) : Int) - 1 = (n : Int) by omega, if_neg (by omega), rdn_ok (by omega) (by omega), Option.bind_some, show ((n : Int)).toNat = n by omega, h1, wrap_id (z := 3 * va τ a) (by omega) (by omega), wrap_id (z := 3 * va τ a + i) (by omega) (by omega), rdn_ok (by omega) (by omega), Option.bind_some, rdn_ok (by omega) (by omega), Option.bind_some, t4, t6, e, va_in ha hi, wrap_id (z := (n : Int) + (-1)) (by omega) (by omega), show (n : Int) + (-1) = (n : Int) - 1 by omega]
        by_cases c5 : τ 4 (va τ a).toNat = 5
        · rw [if_pos c5, if_pos c5]
          obtain ⟨u1, u2⟩ := v7 c5
          obtain ⟨u3, u4⟩ := u2 i.toNat (by omega)
          rw [show (3 * va τ a + i).toNat = 3 * (va τ a).toNat + i.toNat by omega, wrap_id (by omega) (by omega)]
        · rw [if_neg c5, if_neg c5]
      exact ⟨j + 1, by omega, j2.snoc (f := fun a : (Int × Int) => L_X11_valueAt_23 t a.1 a.2) hstep⟩
theorem valueAt_c {τ s : Sg} {pl : Int} (hF : WFK (τ 1) (τ 2) (τ 3)) (hV : WFV τ) (hM : WFM τ) (hG : GV τ) (s4 : s 4 = τ 4) (s6 : s 6 = τ 6) (s35 : s 35 = τ 35) (hp : prP 3 pl) (hk : 0 ≤ kd τ (hdR τ) pl) : ∃ s', F_X11_valueAt pl s = some (va τ pl, s') ∧ ∀ r, ¬ r = 34 → s' r = s r := by
  obtain ⟨n', c, s', w1, w2, w3, w4, w5, w6⟩ := wayTo_c (s := s) hp
  obtain ⟨j, j1, j2⟩ := valL (t := s') hF hV hM hG (by rw [w6 4 (by omega)]; exact s4) (by rw [w6 6 (by omega)]; exact s6) 3 0 n' c pl w4 hp hk (by omega)
  refine ⟨s', ?_, w6⟩
  unfold F_X11_valueAt
  rw [w1, Option.bind_some]
  dsimp only
  rw [rdn_ok (by omega) (by omega), Option.bind_some, show ((n' : Nat) : Int).toNat = n' by omega, w5, rdn_ok (by omega) (by omega), Option.bind_some, w6 35 (by omega), s35, bnd_eq, wrap_id (by omega) (by omega), j2.fin (z := va τ pl) (by
    show L_X11_valueAt_23 s' (va τ pl) (((0 : Nat) : Int) - 1) = _
    unfold L_X11_valueAt_23; rw [if_pos (by omega)]) (by omega), Option.bind_some]
theorem headAt_c {τ s : Sg} {pl : Int} (hF : WFK (τ 1) (τ 2) (τ 3)) (hV : WFV τ) (hM : WFM τ) (hG : GV τ) (s4 : s 4 = τ 4) (s6 : s 6 = τ 6) (s35 : s 35 = τ 35) (s5 : s 5 = τ 5) (h1 : 1 ≤ pl) (hp : prP 3 pl) (hk : 0 ≤ kd τ (hdR τ) pl) : ∃ s', F_X11_headAt pl s = some (hdR τ pl, s') ∧ ∀ r, ¬ r = 34 → s' r = s r := by
  obtain ⟨s', g1, g2⟩ := valueAt_c (s := s) hF hV hM hG s4 s6 s35 hp hk
  obtain ⟨b1, b2⟩ := va_ok hF hV hM hG pl.toNat pl (Nat.le_refl _) h1 hk
  have hv4 := hV.2.1
  refine ⟨s', ?_, g2⟩
  unfold F_X11_headAt hdR
  rw [g1, Option.bind_some]
  dsimp only
  by_cases c : va τ pl < 0
  · have := (b1 c).2
    rw [if_neg (by omega), if_pos c, wrap_id (by omega) (by omega)]
  · have := (b2 (by omega)).1
    rw [if_pos (by omega), if_neg c, rdn_ok (by omega) (by omega), Option.bind_some, g2 5 (by omega), s5]
theorem measureAt_c {τ s : Sg} {pl : Int} (hF : WFK (τ 1) (τ 2) (τ 3)) (hV : WFV τ) (hM : WFM τ) (hG : GV τ) (s4 : s 4 = τ 4) (s6 : s 6 = τ 6) (s35 : s 35 = τ 35) (s7 : s 7 = τ 7) (h1 : 1 ≤ pl) (hp : prP 3 pl) (hk : 0 ≤ kd τ (hdR τ) pl) : ∃ s', F_X11_measureAt pl s = some (msR τ pl, s') ∧ (0 ≤ msR τ pl ∧ msR τ pl < 97) ∧ ∀ r, ¬ r = 34 → s' r = s r := by
  obtain ⟨s', g1, g2⟩ := valueAt_c (s := s) hF hV hM hG s4 s6 s35 hp hk
  obtain ⟨b1, b2⟩ := va_ok hF hV hM hG pl.toNat pl (Nat.le_refl _) h1 hk
  have hv4 := hV.2.1
  refine ⟨s', ?_, ?_, g2⟩
  · unfold F_X11_measureAt msR
    rw [g1, Option.bind_some]
    dsimp only
    by_cases c : va τ pl < 0
    · have := (b1 c).2
      rw [if_neg (by omega), if_pos c, wrap_id (by omega) (by omega)]
    · have := (b2 (by omega)).1
      rw [if_pos (by omega), if_neg c, rdn_ok (by omega) (by omega), Option.bind_some, g2 7 (by omega), s7]
  · unfold msR
    by_cases c : va τ pl < 0
    · have := (b1 c).2
      rw [if_pos c]; omega
    · have hlt := (b2 (by omega)).1
      have := hV.2.2 (va τ pl).toNat (by omega)
      rw [if_neg c]
      exact ⟨this.2.2.1, this.2.2.2.1⟩
/-! views in a run -/
def lkR : List (Int × Int × Int) → Int → Int → Int
  | [], _, _ => -9
  | e :: R, v, pl => if e.1 = v ∧ e.2.1 = pl then e.2.2 else lkR R v pl
def nvR (τ : Sg) (v pl n : Int) : Int := (τ 18 (4 * v).toNat * msR τ pl + τ 18 (4 * v + 1).toNat * n + τ 18 (4 * v + 2).toNat) % τ 18 (4 * v + 3).toNat
def gvR (τ : Sg) (v pl : Int) (x : XS) : Int × XS := if lkR x.2.2 v pl = -9 then (nvR τ v pl x.2.2.length, (x.1, x.2.1, (v, pl, nvR τ v pl x.2.2.length) :: x.2.2)) else (lkR x.2.2 v pl, x)
def ndR : List (Int × Int × Int) → Prop
  | [] => True
  | e :: R => lkR R e.1 e.2.1 = -9 ∧ ndR R
def JR (R : List (Int × Int × Int)) : Prop := ndR R ∧ ∀ e ∈ R, (0 ≤ e.1 ∧ e.1 ≤ 2) ∧ prP 3 e.2.1 ∧ (0 ≤ e.2.2 ∧ e.2.2 ≤ 9)
theorem sub_len {α : Type} [DecidableEq α] : ∀ {l m : List α}, l.Nodup → (∀ a ∈ l, a ∈ m) → l.length ≤ m.length
  | [], m, _, _ => Nat.zero_le _
  | a :: l, m, hn, hs => by
    have ha := hs a List.mem_cons_self
    rw [List.nodup_cons] at hn
    have := sub_len (l := l) (m := m.erase a) hn.2 (fun b hb => by
      have hne : b ≠ a := fun q => hn.1 (by rw [← q]; exact hb)
      exact (List.mem_erase_of_ne hne).mpr (hs b (List.mem_cons_of_mem _ hb)))
    rw [List.length_erase_of_mem ha] at this
    have hpos := List.length_pos_of_mem ha
    rw [List.length_cons]
    omega
def prB : Nat → Nat → Bool
  | 0, p => decide (1 ≤ p ∧ p ≤ 3)
  | b + 1, p => decide (1 ≤ p ∧ p ≤ 3) || (decide (4 ≤ p ∧ (p - 1) % 5 ≤ 2) && prB b ((p - 1) / 5))
theorem prB_of : ∀ (b : Nat) (pl : Int), prP b pl → prB b pl.toNat = true ∧ 1 ≤ pl
  | 0, pl, h => by
    have := h.1
    have := h.2
    exact ⟨by unfold prB; exact decide_eq_true (by omega), h.1⟩
  | b + 1, pl, h => by
    rcases h with z | ⟨z1, z2, z3⟩
    · exact ⟨by unfold prB; rw [decide_eq_true (by omega)]; rfl, z.1⟩
    · have := (prB_of b _ z3).1
      unfold prB
      rw [decide_eq_true (p := 4 ≤ pl.toNat ∧ (pl.toNat - 1) % 5 ≤ 2) (by omega), show (pl.toNat - 1) / 5 = ((pl - 1) / 5).toNat by omega, this]
      exact ⟨by simp, by omega⟩
theorem prP_468 {pl : Int} (h : prP 3 pl) : 1 ≤ pl ∧ pl ≤ 468 := by
  have b1 : ∀ (q : Int), prP 0 q → 1 ≤ q ∧ q ≤ 3 := fun q h => h
  have b2 : ∀ (q : Int), prP 1 q → 1 ≤ q ∧ q ≤ 18 := fun q h => by
    rcases h with z | ⟨z1, z2, z3⟩
    · omega
    · have := b1 _ z3; omega
  have b3 : ∀ (q : Int), prP 2 q → 1 ≤ q ∧ q ≤ 93 := fun q h => by
    rcases h with z | ⟨z1, z2, z3⟩
    · omega
    · have := b2 _ z3; omega
  rcases h with z | ⟨z1, z2, z3⟩
  · omega
  · have := b3 _ z3; omega
def allPl : List Nat := (List.range 469).filter (prB 3)
theorem allPl_len : allPl.length = 120 := by decide +kernel
theorem allPl_mem {pl : Int} (h : prP 3 pl) : pl.toNat ∈ allPl := by
  unfold allPl
  rw [List.mem_filter, List.mem_range]
  have := prP_468 h
  exact ⟨by omega, (prB_of 3 pl h).1⟩
def keyR (e : Int × Int × Int) : Nat := 3 * e.2.1.toNat + e.1.toNat
theorem lk_none {R : List (Int × Int × Int)} {v pl : Int} (h : ∀ e ∈ R, 0 ≤ e.2.2) : lkR R v pl = -9 → ∀ e ∈ R, ¬ (e.1 = v ∧ e.2.1 = pl) := by
  induction R with
  | nil => intro _ e he; cases he
  | cons a R ih =>
    intro hl e he
    unfold lkR at hl
    have ha := h a List.mem_cons_self
    split at hl
    · omega
    · rename_i hne
      rcases List.mem_cons.mp he with rfl | he
      · exact hne
      · exact ih (fun e he => h e (List.mem_cons_of_mem _ he)) hl e he
theorem JR_len {R : List (Int × Int × Int)} (h : JR R) : R.length ≤ 360 := by
  have hnd : ∀ R : List (Int × Int × Int), ndR R → (∀ e ∈ R, (0 ≤ e.1 ∧ e.1 ≤ 2) ∧ prP 3 e.2.1 ∧ (0 ≤ e.2.2 ∧ e.2.2 ≤ 9)) → (R.map keyR).Nodup := by
    intro R
    induction R with
    | nil => intro _ _; exact List.nodup_nil
    | cons a R ih =>
      intro h1 h2
      rw [List.map_cons, List.nodup_cons]
      refine ⟨fun hm => ?_, ih h1.2 (fun e he => h2 e (List.mem_cons_of_mem _ he))⟩
      obtain ⟨e, he, hek⟩ := List.mem_map.mp hm
      have q1 := h2 a List.mem_cons_self
      have q2 := h2 e (List.mem_cons_of_mem _ he)
      have p1 := prP_468 q1.2.1
      have p2 := prP_468 q2.2.1
      unfold keyR at hek
      exact lk_none (fun e he => (h2 e (List.mem_cons_of_mem _ he)).2.2.1) h1.1 e he ⟨by omega, by omega⟩
  have h1 := hnd R h.1 h.2
  have h2 := sub_len (l := R.map keyR) (m := (allPl.map (fun p => 3 * p)) ++ ((allPl.map (fun p => 3 * p + 1)) ++ (allPl.map (fun p => 3 * p + 2)))) h1 (fun k hk => by
    obtain ⟨e, he, rfl⟩ := List.mem_map.mp hk
    have q := h.2 e he
    have hm := allPl_mem q.2.1
    rw [List.mem_append, List.mem_append, List.mem_map, List.mem_map, List.mem_map]
    have : e.1.toNat = 0 ∨ e.1.toNat = 1 ∨ e.1.toNat = 2 := by omega
    unfold keyR
    rcases this with z | z | z <;> rw [z]
    · exact Or.inl ⟨_, hm, rfl⟩
    · exact Or.inr (Or.inl ⟨_, hm, rfl⟩)
    · exact Or.inr (Or.inr ⟨_, hm, rfl⟩))
  rw [List.length_map, List.length_append, List.length_append, List.length_map, List.length_map, List.length_map, allPl_len] at h2
  omega
