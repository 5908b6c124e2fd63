/-! the reference: what is known at a node -/
def rAsk (s : Sg) (n : Nat) : Ask := if s 41 n = 5 then (3, s 43 n, s 42 n) else if s 41 n = 4 then (4, s 43 n, s 42 n) else if s 41 n = 3 then (5, s 42 n, 0) else if s 41 n = 2 then (2, 0, 0) else (s 41 n, s 42 n, 0)
theorem rAsk_3 {s : Sg} {n : Nat} : (rAsk s n).1 = 3 ↔ s 41 n = 5 := by
  unfold rAsk
  split
  · rename_i h; simp [h]
  · split
    · rename_i h; simp [h]
    · split
      · rename_i h; simp [h]
      · split
        · rename_i h; simp [h]
        · simp; try omega
theorem rAsk_4 {s : Sg} {n : Nat} : (rAsk s n).1 = 4 ↔ s 41 n = 4 := by
  unfold rAsk
  split
  · rename_i h; simp [h]
  · split
    · rename_i h; simp [h]
    · split
      · rename_i h; simp [h]
      · split
        · rename_i h; simp [h]
        · simp; try omega
theorem rAsk_5 {s : Sg} {n : Nat} : (rAsk s n).1 = 5 ↔ s 41 n = 3 := by
  unfold rAsk
  split
  · rename_i h; simp [h]
  · split
    · rename_i h; simp [h]
    · split
      · rename_i h; simp [h]
      · split
        · rename_i h; simp [h]
        · simp; try omega
/-- the reference's nodes and their ways -/
def RTs (s : Sg) (pf : Nat → Pth) (N : Nat) : Prop := N ≤ 512 ∧ pf 0 = [] ∧ ∀ n : Nat, 0 < n → n < N → ∃ a i : Nat, a < n ∧ s 40 n = a ∧ s 44 a + i = n ∧ 0 ≤ s 44 a ∧ pf n = (rAsk s a, i) :: pf a
def hkF (pl : Int) : Int → Pth → Int
  | f, [] => f
  | f, q :: P => hkF pl (if q.1.1 = 3 ∧ q.1.2.1 = pl then (q.2 : Int) else f) P
def vkF (v pl : Int) : Int → Pth → Int
  | f, [] => f
  | f, q :: P => vkF v pl (if q.1.1 = 4 ∧ q.1.2.1 = pl ∧ q.1.2.2 = v then (q.2 : Int) else f) P
def fkF (c : Nat) : Bool → Pth → Bool
  | f, [] => f
  | f, q :: P => fkF c (f || decide (q.1.1 = 5 ∧ q.1.2.1 = (c : Int) ∧ 0 < q.2)) P
theorem hkF_eq {τ : Sg} {pl : Int} : ∀ {P : Pth} {f : Int}, KP τ P → hkF pl f P = if hk P pl = -9 then f else hk P pl
  | [], f, _ => by show f = if (-9 : Int) = -9 then f else -9; rw [if_pos rfl]
  | q :: P, f, h => by
    show hkF pl (if q.1.1 = 3 ∧ q.1.2.1 = pl then (q.2 : Int) else f) P = if (if q.1.1 = 3 ∧ q.1.2.1 = pl then (q.2 : Int) else hk P pl) = -9 then f else (if q.1.1 = 3 ∧ q.1.2.1 = pl then (q.2 : Int) else hk P pl)
    rw [hkF_eq h.1]
    by_cases c : q.1.1 = 3 ∧ q.1.2.1 = pl
    · have := h.unk c.1
      rw [c.2] at this
      rw [if_pos c, if_pos c, if_pos this, if_neg (by omega)]
    · rw [if_neg c, if_neg c]
theorem KP.unv {τ : Sg} {q : Ask × Nat} {P : Pth} (h : KP τ (q :: P)) : q.1.1 = 4 → vk P q.1.2.2 q.1.2.1 = -9 := by
  intro z
  rcases h.2.2 with (g | g) | g
  · omega
  · exact g.2.2.2.2
  · omega
theorem vkF_eq {τ : Sg} {v pl : Int} : ∀ {P : Pth} {f : Int}, KP τ P → vkF v pl f P = if vk P v pl = -9 then f else vk P v pl
  | [], f, _ => by show f = if (-9 : Int) = -9 then f else -9; rw [if_pos rfl]
  | q :: P, f, h => by
    show vkF v pl (if q.1.1 = 4 ∧ q.1.2.1 = pl ∧ q.1.2.2 = v then (q.2 : Int) else f) P = if (if q.1.1 = 4 ∧ q.1.2.1 = pl ∧ q.1.2.2 = v then (q.2 : Int) else vk P v pl) = -9 then f else (if q.1.1 = 4 ∧ q.1.2.1 = pl ∧ q.1.2.2 = v then (q.2 : Int) else vk P v pl)
    rw [vkF_eq h.1]
    by_cases c : q.1.1 = 4 ∧ q.1.2.1 = pl ∧ q.1.2.2 = v
    · have := h.unv c.1
      rw [c.2.1, c.2.2] at this
      rw [if_pos c, if_pos c, if_pos this, if_neg (by omega)]
    · rw [if_neg c, if_neg c]
theorem fkF_eq {c : Nat} : ∀ {P : Pth} {f : Bool}, fkF c f P = (f || fk P c)
  | [], f => by show f = (f || false); simp
  | q :: P, f => by
    show fkF c (f || decide (q.1.1 = 5 ∧ q.1.2.1 = (c : Int) ∧ 0 < q.2)) P = (f || (decide (q.1.1 = 5 ∧ q.1.2.1 = (c : Int) ∧ 0 < q.2) || fk P c))
    rw [fkF_eq, Bool.or_assoc]
theorem fact_l {s : Sg} {pf : Nat → Pth} {N : Nat} {pl : Int} (h : RTs s pf N) : ∀ (n : Nat) (f : Int), n < N → ∃ j, j ≤ n ∧ Rch (fun a : (Int × Int) => L_X11_factAt_29 pl s a.1 a.2) j (f, (n : Int)) (hkF pl f (pf n), 0) := by
  intro n
  induction n using Nat.strongRecOn with
  | _ n ih =>
    intro f hn
    by_cases n0 : n = 0
    · subst n0
      rw [h.2.1]
      exact ⟨0, Nat.le_refl _, Rch.nil⟩
    · obtain ⟨a, i, a1, a2, a3, a4, a5⟩ := h.2.2 n (by omega) hn
      have h512 := h.1
      obtain ⟨j, j1, j2⟩ := ih a a1 (if (rAsk s a).1 = 3 ∧ (rAsk s a).2.1 = pl then (i : Int) else f) (by omega)
      have hstep : L_X11_factAt_29 pl s f (n : Int) = some (.inl (if (rAsk s a).1 = 3 ∧ (rAsk s a).2.1 = pl then (i : Int) else f, (a : Int))) := by
        unfold L_X11_factAt_29 B_X11_factAt_79 B_X11_factAt_80
        rw [if_neg (by omega), rdn_ok (by omega) (by omega), Option.bind_some, show ((n : Int)).toNat = n by omega, a2, rdn_ok (by omega) (by omega), Option.bind_some, show ((a : Int)).toNat = a by omega]
        by_cases c5 : s 41 a = 5
        · rw [if_pos c5, Option.bind_some, rdn_ok (by omega) (by omega), Option.bind_some, show ((a : Int)).toNat = a by omega]
          have hr : (rAsk s a).2.1 = s 43 a := by unfold rAsk; rw [if_pos c5]
          by_cases cp : s 43 a = pl
          · rw [if_pos cp, Option.bind_some, rdn_ok (by omega) (by omega), Option.bind_some, show ((a : Int)).toNat = a by omega, Option.bind_some, if_pos ⟨rAsk_3.mpr c5, by rw [hr, cp]⟩, wrap_id (by omega) (by omega), show (n : Int) - s 44 a = i by omega]
          · rw [if_neg cp, Option.bind_some, if_neg (fun z => cp (by rw [← hr]; exact z.2))]
        · rw [if_neg c5, Option.bind_some, if_neg (fun z => c5 (rAsk_3.mp z.1))]
      refine ⟨j + 1, by omega, ?_⟩
      rw [a5]
      exact Rch.cons (f := fun a : (Int × Int) => L_X11_factAt_29 pl s a.1 a.2) hstep j2
theorem gave_l {s : Sg} {pf : Nat → Pth} {N : Nat} {v pl : Int} (h : RTs s pf N) : ∀ (n : Nat) (f : Int), n < N → ∃ j, j ≤ n ∧ Rch (fun a : (Int × Int) => L_X11_gave_16 v pl s a.1 a.2) j (f, (n : Int)) (vkF v pl f (pf n), 0) := by
  intro n
  induction n using Nat.strongRecOn with
  | _ n ih =>
    intro f hn
    by_cases n0 : n = 0
    · subst n0
      rw [h.2.1]
      exact ⟨0, Nat.le_refl _, Rch.nil⟩
    · obtain ⟨a, i, a1, a2, a3, a4, a5⟩ := h.2.2 n (by omega) hn
      have h512 := h.1
      obtain ⟨j, j1, j2⟩ := ih a a1 (if (rAsk s a).1 = 4 ∧ (rAsk s a).2.1 = pl ∧ (rAsk s a).2.2 = v then (i : Int) else f) (by omega)
      have hstep : L_X11_gave_16 v pl s f (n : Int) = some (.inl (if (rAsk s a).1 = 4 ∧ (rAsk s a).2.1 = pl ∧ (rAsk s a).2.2 = v then (i : Int) else f, (a : Int))) := by
        unfold L_X11_gave_16 B_X11_gave_73 B_X11_gave_74 B_X11_gave_100
        rw [if_neg (by omega), rdn_ok (by omega) (by omega), Option.bind_some, show ((n : Int)).toNat = n by omega, a2, rdn_ok (by omega) (by omega), Option.bind_some, show ((a : Int)).toNat = a by omega, if_neg (show ¬ false = true by simp)]
        by_cases c4 : s 41 a = 4
        · have hr : (rAsk s a).2.1 = s 43 a ∧ (rAsk s a).2.2 = s 42 a := by unfold rAsk; rw [if_neg (by omega), if_pos c4]; exact ⟨rfl, rfl⟩
          rw [if_pos c4, Option.bind_some, rdn_ok (by omega) (by omega), Option.bind_some, show ((a : Int)).toNat = a by omega]
          by_cases cv : s 42 a = v
          · rw [if_pos cv, Option.bind_some, rdn_ok (by omega) (by omega), Option.bind_some, show ((a : Int)).toNat = a by omega]
            by_cases cp : s 43 a = pl
            · rw [if_pos cp, if_pos rfl, Option.bind_some, rdn_ok (by omega) (by omega), Option.bind_some, show ((a : Int)).toNat = a by omega, Option.bind_some, if_pos ⟨rAsk_4.mpr c4, by rw [hr.1, cp], by rw [hr.2, cv]⟩, wrap_id (by omega) (by omega), show (n : Int) - s 44 a = i by omega]
            · rw [if_neg cp, Option.bind_some, if_neg (fun z => cp (by rw [← hr.1]; exact z.2.1))]
          · rw [if_neg cv, Option.bind_some, if_neg (fun z => cv (by rw [← hr.2]; exact z.2.2))]
        · rw [if_neg c4, Option.bind_some, if_neg (fun z => c4 (rAsk_4.mp z.1))]
      refine ⟨j + 1, by omega, ?_⟩
      rw [a5]
      exact Rch.cons (f := fun a : (Int × Int) => L_X11_gave_16 v pl s a.1 a.2) hstep j2
theorem failed_l {s : Sg} {pf : Nat → Pth} {N : Nat} {c : Nat} (h : RTs s pf N) : ∀ (n : Nat) (f : Bool), n < N → ∃ j, j ≤ n ∧ Rch (fun a : (Bool × Int) => L_X11_hasFailed_7 c s a.1 a.2) j (f, (n : Int)) (fkF c f (pf n), 0) := by
  intro n
  induction n using Nat.strongRecOn with
  | _ n ih =>
    intro f hn
    by_cases n0 : n = 0
    · subst n0
      rw [h.2.1]
      exact ⟨0, Nat.le_refl _, Rch.nil⟩
    · obtain ⟨a, i, a1, a2, a3, a4, a5⟩ := h.2.2 n (by omega) hn
      have h512 := h.1
      obtain ⟨j, j1, j2⟩ := ih a a1 (f || decide ((rAsk s a).1 = 5 ∧ (rAsk s a).2.1 = (c : Int) ∧ 0 < i)) (by omega)
      have hstep : L_X11_hasFailed_7 c s f (n : Int) = some (.inl (f || decide ((rAsk s a).1 = 5 ∧ (rAsk s a).2.1 = (c : Int) ∧ 0 < i), (a : Int))) := by
        unfold L_X11_hasFailed_7 B_X11_hasFailed_60 B_X11_hasFailed_64 B_X11_hasFailed_65
        rw [if_neg (by omega)]
        cases f with
        | true => rw [if_pos rfl, rdn_ok (by omega) (by omega), Option.bind_some, show ((n : Int)).toNat = n by omega, a2]; rfl
        | false =>
          rw [if_neg (by simp), rdn_ok (by omega) (by omega), Option.bind_some, show ((n : Int)).toNat = n by omega, a2, rdn_ok (by omega) (by omega), Option.bind_some, show ((a : Int)).toNat = a by omega]
          by_cases c3 : s 41 a = 3
          · have hr : (rAsk s a).2.1 = s 42 a := by unfold rAsk; rw [if_neg (by omega), if_neg (by omega), if_pos c3]
            rw [if_pos c3, Option.bind_some, rdn_ok (by omega) (by omega), Option.bind_some, show ((a : Int)).toNat = a by omega]
            by_cases cc : s 42 a = c
            · rw [if_pos cc, Option.bind_some, rdn_ok (by omega) (by omega), Option.bind_some, show ((a : Int)).toNat = a by omega]
              by_cases ci : (n : Int) ≤ s 44 a
              · rw [if_pos ci, Option.bind_some, decide_eq_false (by omega)]; rfl
              · rw [if_neg ci, Option.bind_some, decide_eq_true ⟨rAsk_5.mpr c3, by rw [hr, cc], by omega⟩]; rfl
            · rw [if_neg cc, Option.bind_some, decide_eq_false (fun z => cc (by rw [← hr]; exact z.2.1))]; rfl
          · rw [if_neg c3, Option.bind_some, decide_eq_false (fun z => c3 (rAsk_5.mp z.1))]; rfl
      refine ⟨j + 1, by omega, ?_⟩
      rw [a5]
      exact Rch.cons (f := fun a : (Bool × Int) => L_X11_hasFailed_7 c s a.1 a.2) hstep j2
theorem hasFailed_m {s : Sg} {pf : Nat → Pth} {N n c : Nat} (h : RTs s pf N) (hn : n < N) (h41 : s 0 41 = n) : F_X11_hasFailed c s = some (fk (pf n) c) := by
  obtain ⟨j, j1, j2⟩ := failed_l (c := c) h n false hn
  have h512 := h.1
  unfold F_X11_hasFailed
  rw [bnd_eq, h41, j2.fin (z := fkF c false (pf n)) (by
    show L_X11_hasFailed_7 c s (fkF c false (pf n)) 0 = _
    unfold L_X11_hasFailed_7; rw [if_pos (by omega)]) (by omega), Option.bind_some, fkF_eq]
  simp
theorem RTs.fr {s s' : Sg} {pf : Nat → Pth} {N : Nat} (h : RTs s pf N) (hs : ∀ r, 40 ≤ r → r ≤ 44 → s' r = s r) : RTs s' pf N := by
  refine ⟨h.1, h.2.1, fun n n0 hn => ?_⟩
  obtain ⟨a, i, a1, a2, a3, a4, a5⟩ := h.2.2 n n0 hn
  refine ⟨a, i, a1, by rw [hs 40 (by omega) (by omega)]; exact a2, by rw [hs 44 (by omega) (by omega)]; exact a3, by rw [hs 44 (by omega) (by omega)]; exact a4, ?_⟩
  unfold rAsk at *
  rw [hs 41 (by omega) (by omega), hs 42 (by omega) (by omega), hs 43 (by omega) (by omega)]
  exact a5
theorem envK_ok {τ : Sg} {pf : Nat → Pth} {N n : Nat} (hWW : WFW τ) (hR : RTs τ pf N) (hn : n < N) (hK : KP τ (pf n)) (h40 : τ 0 40 = 0) (h41 : τ 0 41 = n) : EnvOK τ (envK (pf n)) (fun _ => True) := by
  have h512 := hR.1
  have hV := hK.vok hWW
  refine ⟨fun pl x s hx _ h1 h2 hk0 => ⟨s, ?_, fun _ _ => rfl⟩, fun v pl x s hx _ v1 v2 h1 h2 hk0 => ?_, fun x s hx _ => ⟨?_, trivial⟩⟩
  · have hRs : RTs s pf N := hR.fr (fun r r1 r2 => hx.1.row (by omega) (by omega))
    obtain ⟨j, j1, j2⟩ := fact_l (pl := pl) hRs n (-9) hn
    unfold F_X11_factAt
    rw [if_pos (by omega), hx.1.2 40 (by decide), if_pos h40, bnd_eq, hx.1.2 41 (by decide), h41, j2.fin (z := hkF pl (-9) (pf n)) (by
      show L_X11_factAt_29 pl s (hkF pl (-9) (pf n)) 0 = _
      unfold L_X11_factAt_29; rw [if_pos (by omega)]) (by omega), Option.bind_some, hkF_eq hK]
    show some ((if hk (pf n) pl = -9 then -9 else hk (pf n) pl), s) = some (hk (pf n) pl, s)
    by_cases c : hk (pf n) pl = -9
    · rw [if_pos c, c]
    · rw [if_neg c]
  · have hRs : RTs s pf N := hR.fr (fun r r1 r2 => hx.1.row (by omega) (by omega))
    obtain ⟨j, j1, j2⟩ := gave_l (v := v) (pl := pl) hRs n (-9) hn
    refine ⟨s, ?_, hx, trivial, fun _ _ _ => rfl, rfl, rfl, hV v pl⟩
    unfold F_X11_gave
    rw [hx.1.2 40 (by decide), if_pos h40, bnd_eq, hx.1.2 41 (by decide), h41, j2.fin (z := vkF v pl (-9) (pf n)) (by
      show L_X11_gave_16 v pl s (vkF v pl (-9) (pf n)) 0 = _
      unfold L_X11_gave_16; rw [if_pos (by omega)]) (by omega), Option.bind_some, vkF_eq hK]
    show some ((if vk (pf n) v pl = -9 then -9 else vk (pf n) v pl), s) = some (vk (pf n) v pl, s)
    by_cases c : vk (pf n) v pl = -9
    · rw [if_pos c, c]
    · rw [if_neg c]
  · have h47 : s 0 47 = x.2.1 := hx.2.2.1
    have hin := hx.2.2.2.1
    have hw : wrap (s 0 47 + (if s 0 40 = 0 then 0 else 1)) = s 0 47 := by
      unfold inR at hin
      rw [hx.1.2 40 (by decide), if_pos h40, wrap_id (by omega) (by omega)]; omega
    have e : up2 s 0 47 (wrap (s 0 47 + (if s 0 40 = 0 then 0 else 1))) = s := by
      rw [hw]
      funext r i
      unfold up2
      by_cases c : r = 0 ∧ i = 47
      · rw [if_pos c, c.1, c.2]
      · rw [if_neg c]
    rw [e]; exact hx
