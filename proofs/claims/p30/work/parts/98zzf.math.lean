/-! the size, shared, of the reference's tree: all nodes -/
theorem up2_two {s : Sg} {k i : Nat} {a b : Int} : up2 (up2 s k i a) k i b = up2 s k i b := by
  funext r j
  unfold up2
  by_cases g : r = k ∧ j = i
  · rw [if_pos g, if_pos g]
  · rw [if_neg g, if_neg g, if_neg g]
def RInv (τ s : Sg) (m : Bool) (pf : Nat → Pth) (N k n0 : Nat) : Prop :=
  (∀ r, ¬ r = 46 → s r = τ r) ∧
  (∀ a, k ≤ a → a < N → 0 ≤ s 46 a ∧ s 46 a < n0) ∧
  (∀ a b : Nat, k ≤ a → k ≤ b → a < N → b < N → (s 46 a = s 46 b ↔ cdP τ m (pf a) = cdP τ m (pf b))) ∧
  (∃ L : List Pth, L.length = n0 ∧ L.length + k ≤ N ∧ (∀ P ∈ L, AP τ m P) ∧ (L.map (cdP τ m)).Nodup ∧ (∀ n, k ≤ n → n < N → ∃ Q ∈ L, cdP τ m Q = cdP τ m (pf n)) ∧ ∀ P ∈ L, ∃ n : Nat, k ≤ n ∧ n < N ∧ pf n = P)
theorem RInv.fr {τ s : Sg} {m : Bool} {pf : Nat → Pth} {N k n0 : Nat} (h : RInv τ s m pf N k n0) : ∀ r, ¬ r = 46 → s r = τ r := h.1
theorem RInv.cls {τ s : Sg} {m : Bool} {pf : Nat → Pth} {N k n0 : Nat} (h : RInv τ s m pf N k n0) : ∀ a, k ≤ a → a < N → 0 ≤ s 46 a ∧ s 46 a < n0 := h.2.1
theorem RInv.same {τ s : Sg} {m : Bool} {pf : Nat → Pth} {N k n0 : Nat} (h : RInv τ s m pf N k n0) : ∀ a b : Nat, k ≤ a → k ≤ b → a < N → b < N → (s 46 a = s 46 b ↔ cdP τ m (pf a) = cdP τ m (pf b)) := h.2.2.1
theorem RInv.lst {τ s : Sg} {m : Bool} {pf : Nat → Pth} {N k n0 : Nat} (h : RInv τ s m pf N k n0) : ∃ L : List Pth, L.length = n0 ∧ L.length + k ≤ N ∧ (∀ P ∈ L, AP τ m P) ∧ (L.map (cdP τ m)).Nodup ∧ (∀ n, k ≤ n → n < N → ∃ Q ∈ L, cdP τ m Q = cdP τ m (pf n)) ∧ ∀ P ∈ L, ∃ n : Nat, k ≤ n ∧ n < N ∧ pf n = P := h.2.2.2
theorem RInv.r46 {τ s : Sg} {m : Bool} {pf : Nat → Pth} {N k n0 : Nat} {v : Int} (h : RInv τ s m pf N (k + 1) n0) : R46 τ (up2 s 46 k v) m pf N k := by
  refine ⟨fun r r1 r2 => by rw [← h.fr r (by omega)]; funext i; rw [up2_row (by omega)], fun a b ha hb haN hbN => ?_⟩
  rw [up2_idx (by omega), up2_idx (by omega)]
  exact h.same a b (by omega) (by omega) haN hbN
theorem find_m {τ s : Sg} {m : Bool} {pf : Nat → Pth} {N k n0 : Nat} (hB : BI τ τ m pf N N) (h : RInv τ s m pf N (k + 1) n0) (hk : k < N) (hni : ¬ idl τ m (pf k)) (hlen : ∀ n, n < N → (pf n).length ≤ 499) (hok : ∀ n, n < N → okAs (qry τ m (pf n)) ∧ wid τ (qry τ m (pf n)) ≤ 10) : ∀ (d fu : Nat), k + d < N → d + 1 < fu → ∃ v : Int, iter (fun a : (Int × Sg) => L_X11_sharedSize_129 k a.1 a.2) fu (((k + d : Nat) : Int), up2 s 46 k (-1)) = some (up2 s 46 k v) ∧ ((v = -1 ∧ ∀ o : Nat, k < o → o ≤ k + d → ¬ idl τ m (pf o) → ¬ cdP τ m (pf o) = cdP τ m (pf k)) ∨ ∃ o : Nat, k < o ∧ o ≤ k + d ∧ cdP τ m (pf o) = cdP τ m (pf k) ∧ v = s 46 o)
  | 0, fu, hd, hfu => by
    obtain ⟨fu, rfl⟩ : ∃ z, fu = z + 1 := ⟨fu - 1, by omega⟩
    refine ⟨-1, ?_, Or.inl ⟨rfl, fun o h1 h2 => by omega⟩⟩
    rw [iter_r (b := up2 s 46 k (-1)) (by
      show L_X11_sharedSize_129 k ((k + 0 : Nat) : Int) _ = _
      unfold L_X11_sharedSize_129
      rw [if_pos (by omega)])]
  | d + 1, fu, hd, hfu => by
    obtain ⟨fu, rfl⟩ : ∃ z, fu = z + 1 := ⟨fu - 1, by omega⟩
    have h500 := hB.n500
    obtain ⟨j, hj⟩ : ∃ j, j = k + (d + 1) := ⟨_, rfl⟩
    have hjN : j < N := by omega
    obtain ⟨hc0, hc1⟩ := h.cls j (by omega) hjN
    have hR := h.r46 (v := -1)
    obtain ⟨b, b1, b2⟩ := isOwn_m hB hR hjN (by omega) (hok j hjN)
    obtain ⟨e, e1, e2⟩ := isSame_m hB hR (show k < j by omega) hjN hok
    have hw : True → wrap ((j : Int) + -1) = ((k + d : Nat) : Int) := fun _ => by rw [wrap_id (by omega) (by omega)]; omega
    have r46k : rdn 512 (up2 s 46 k (-1)) 46 (k : Int) = some (-1) := by rw [rdn_ok (by omega) (by omega), show ((k : Int)).toNat = k by omega, up2_at rfl rfl]
    have r46j : rdn 512 (up2 s 46 k (-1)) 46 (j : Int) = some (s 46 j) := by rw [rdn_ok (by omega) (by omega), show ((j : Int)).toNat = j by omega, up2_idx (by omega)]
    have h190 : ∀ v : Int, B_X11_sharedSize_190 j v k (up2 s 46 k (-1)) = some (.inl (((k + d : Nat) : Int), up2 s 46 k v)) := fun v => by
      unfold B_X11_sharedSize_190
      rw [wrn_ok (by omega) (by omega), Option.bind_some, show ((k : Int)).toNat = k by omega, up2_two, hw trivial]
    have hgo : L_X11_sharedSize_129 k j (up2 s 46 k (-1)) = some (.inl (((k + d : Nat) : Int), up2 s 46 k (-1))) → (¬ idl τ m (pf j) → ¬ cdP τ m (pf j) = cdP τ m (pf k)) → ∃ v : Int, iter (fun a : (Int × Sg) => L_X11_sharedSize_129 k a.1 a.2) (fu + 1) ((j : Int), up2 s 46 k (-1)) = some (up2 s 46 k v) ∧ ((v = -1 ∧ ∀ o : Nat, k < o → o ≤ j → ¬ idl τ m (pf o) → ¬ cdP τ m (pf o) = cdP τ m (pf k)) ∨ ∃ o : Nat, k < o ∧ o ≤ j ∧ cdP τ m (pf o) = cdP τ m (pf k) ∧ v = s 46 o) := fun hs hn => by
      obtain ⟨v, v1, v2⟩ := find_m hB h hk hni hlen hok d fu (by omega) (by omega)
      refine ⟨v, by rw [iter_l (f := fun a : (Int × Sg) => L_X11_sharedSize_129 k a.1 a.2) (a := ((j : Int), up2 s 46 k (-1))) hs]; exact v1, ?_⟩
      rcases v2 with ⟨w1, w2⟩ | ⟨o, o1, o2, o3, o4⟩
      · refine Or.inl ⟨w1, fun o h1 h2 h3 => ?_⟩
        by_cases g : o = j
        · rw [g] at h3 ⊢; exact hn h3
        · exact w2 o h1 (by omega) h3
      · exact Or.inr ⟨o, o1, by omega, o3, o4⟩
    rw [← hj]
    have hunf : L_X11_sharedSize_129 k j (up2 s 46 k (-1)) = if b = true then (if e = true then B_X11_sharedSize_190 j (s 46 j) k (up2 s 46 k (-1)) else B_X11_sharedSize_190 j (-1) k (up2 s 46 k (-1))) else B_X11_sharedSize_190 j (-1) k (up2 s 46 k (-1)) := by
      unfold L_X11_sharedSize_129 B_X11_sharedSize_189
      rw [if_neg (by omega), r46k, Option.bind_some, if_pos rfl, r46j, Option.bind_some, if_neg (by omega), b1, Option.bind_some, e1, Option.bind_some, Option.bind_some]
    by_cases gb : b = true
    · have hcd := cdP_same (hlen j hjN) (hlen k hk) (b2.mp gb) hni
      by_cases ge : e = true
      · rw [if_pos gb, if_pos ge, h190] at hunf
        obtain ⟨fu, rfl⟩ : ∃ z, fu = z + 1 := ⟨fu - 1, by omega⟩
        refine ⟨s 46 j, ?_, Or.inr ⟨j, by omega, Nat.le_refl _, hcd.mpr (e2.mp ge), rfl⟩⟩
        rw [iter_l (f := fun a : (Int × Sg) => L_X11_sharedSize_129 k a.1 a.2) (a := ((j : Int), up2 s 46 k (-1))) hunf]
        refine iter_r (f := fun a : (Int × Sg) => L_X11_sharedSize_129 k a.1 a.2) (a := (((k + d : Nat) : Int), up2 s 46 k (s 46 j))) ?_
        show L_X11_sharedSize_129 k ((k + d : Nat) : Int) (up2 s 46 k (s 46 j)) = _
        unfold L_X11_sharedSize_129
        by_cases gk : ((k + d : Nat) : Int) ≤ (k : Int)
        · rw [if_pos gk]
        · rw [if_neg gk, rdn_ok (by omega) (by omega), Option.bind_some, show ((k : Int)).toNat = k by omega, up2_at rfl rfl, if_neg (by omega)]
      · rw [if_pos gb, if_neg ge, h190] at hunf
        exact hgo hunf (fun _ z => ge (e2.mpr (hcd.mp z)))
    · rw [if_neg gb, h190] at hunf
      exact hgo hunf (fun z => absurd (b2.mpr z) gb)
set_option maxHeartbeats 4000000 in
theorem rshared_s {τ s : Sg} {m : Bool} {pf : Nat → Pth} {N k n0 : Nat} (hB : BI τ τ m pf N N) (h : RInv τ s m pf N (k + 1) n0) (hk : k < N) (hlen : ∀ n, n < N → (pf n).length ≤ 499) (hok : ∀ n, n < N → okAs (qry τ m (pf n)) ∧ wid τ (qry τ m (pf n)) ≤ 10) : ∃ (n1 : Nat) (s' : Sg), L_X11_sharedSize_9 n0 k s = some (.inl ((n1 : Int), (k : Int) - 1, s')) ∧ RInv τ s' m pf N k n1 := by
  have h500 := hB.n500
  obtain ⟨L, l1, l0, l2, l3, l4, l5⟩ := h.lst
  obtain ⟨f, f1, f2, f3⟩ := hB.ch hk
  obtain ⟨g1, -, -⟩ := hB.fin k hk
  obtain ⟨c1, -, -, -, -, -, -, -, -, -⟩ := ask_cells g1 (hok k hk).1.1
  have hkk : ((k : Int)).toNat = k := by omega
  have hR : R46 τ s m pf N k := ⟨fun r r1 r2 => h.fr r (by omega), fun a b ha hb haN hbN => h.same a b (by omega) (by omega) haN hbN⟩
  have r41 : rdn 512 s 41 (k : Int) = some (τ 41 k) := by rw [rdn_ok (by omega) (by omega), hkk, h.fr 41 (by omega)]
  have r45 : rdn 512 s 45 (k : Int) = some ((wid τ (qry τ m (pf k)) : Nat) : Int) := by rw [rdn_ok (by omega) (by omega), hkk, h.fr 45 (by omega), f2]
  have r44 : rdn 512 s 44 (k : Int) = some (f : Int) := by rw [rdn_ok (by omega) (by omega), hkk, h.fr 44 (by omega), f1]
  have hwk : True → wrap ((k : Int) + -1) = (k : Int) - 1 := fun _ => by rw [wrap_id (by omega) (by omega)]; omega
  have hwn : True → wrap ((n0 : Int) + 1) = ((n0 + 1 : Nat) : Int) := fun _ => by rw [wrap_id (by omega) (by omega)]; omega
  have hwN : ∀ v, wrap (up2 s 46 k v 0 56 - 1) = ((N - 1 : Nat) : Int) := fun v => by
    have h56 := hB.n56
    have hpos := hB.pos
    rw [up2_row (by omega), h.fr 0 (by omega), h56, wrap_id (by omega) (by omega)]
    omega
  have hs : ∀ n, k ≤ n → n = k ∨ k + 1 ≤ n := fun n hn => by omega
  -- the class of a node behind
  have hfin : ∀ o : Nat, k < o → o < N → cdP τ m (pf o) = cdP τ m (pf k) → RInv τ (up2 s 46 k (s 46 o)) m pf N k n0 := fun o o1 o2 o3 => by
    have hcell : ∀ a, up2 s 46 k (s 46 o) 46 a = if a = k then s 46 o else s 46 a := fun a => by
      by_cases q : a = k
      · rw [up2_at rfl q, if_pos q]
      · rw [up2_idx q, if_neg q]
    refine ⟨fun r hr => by rw [← h.fr r hr]; funext i; rw [up2_row hr], fun a a1 a2 => ?_, fun a b a1 b1 a2 b2 => ?_, L, l1, by omega, l2, l3, fun n n1 n2 => ?_, fun P hP => ?_⟩
    · rw [hcell]
      rcases hs a a1 with q | q
      · rw [if_pos q]; exact h.cls o (by omega) o2
      · rw [if_neg (by omega)]; exact h.cls a q a2
    · rw [hcell, hcell]
      rcases hs a a1 with q | q
      · rcases hs b b1 with w | w
        · rw [if_pos q, if_pos w, q, w]
          exact ⟨fun _ => rfl, fun _ => rfl⟩
        · rw [if_pos q, if_neg (by omega), q, ← o3]
          exact h.same o b (by omega) w o2 b2
      · rcases hs b b1 with w | w
        · rw [if_neg (by omega), if_pos w, w, ← o3]
          exact h.same a o q (by omega) a2 o2
        · rw [if_neg (by omega), if_neg (by omega)]
          exact h.same a b q w a2 b2
    · rcases hs n n1 with q | q
      · obtain ⟨Q, q1, q2⟩ := l4 o (by omega) o2
        exact ⟨Q, q1, by rw [q2, q, o3]⟩
      · exact l4 n q n2
    · obtain ⟨n, n1, n2, n3⟩ := l5 P hP
      exact ⟨n, by omega, n2, n3⟩
  -- a node that isn't replaced
  have h120 : ¬ idl τ m (pf k) → ∃ (n1 : Nat) (s' : Sg), B_X11_sharedSize_120 n0 k (-1) k s = some (.inl ((n1 : Int), (k : Int) - 1, s')) ∧ RInv τ s' m pf N k n1 := fun hni => by
    obtain ⟨v, v1, v2⟩ := find_m hB h hk hni hlen hok (N - 1 - k) 3000 (by omega) (by omega)
    rw [show k + (N - 1 - k) = N - 1 by omega] at v1 v2
    have hunf : B_X11_sharedSize_120 n0 k (-1) k s = (if v = -1 then (wrn 512 (up2 s 46 k v) 46 k n0).bind fun s37 => B_X11_sharedSize_217 (wrap ((n0 : Int) + 1)) k s37 else B_X11_sharedSize_217 n0 k (up2 s 46 k v)) := by
      unfold B_X11_sharedSize_120
      rw [wrn_ok (by omega) (by omega), Option.bind_some, hkk, hwN, bnd_eq, v1, Option.bind_some, rdn_ok (by omega) (by omega), Option.bind_some, hkk, up2_at rfl rfl]
    rcases v2 with ⟨w1, w2⟩ | ⟨o, o1, o2, o3, o4⟩
    · rw [if_pos w1, wrn_ok (by omega) (by omega), Option.bind_some, hkk, up2_two, hwn trivial] at hunf
      unfold B_X11_sharedSize_217 at hunf
      rw [hwk trivial] at hunf
      have hne : ∀ a, k < a → a < N → ¬ cdP τ m (pf a) = cdP τ m (pf k) := fun a a1 a2 z => by
        obtain ⟨o, o1, o2, o3, o4⟩ := own_ex hB N a (by omega) a2
        exact w2 o (by omega) (by omega) o3 (by rw [o4, z])
      have hcell : ∀ a, up2 s 46 k n0 46 a = if a = k then (n0 : Int) else s 46 a := fun a => by
        by_cases q : a = k
        · rw [up2_at rfl q, if_pos q]
        · rw [up2_idx q, if_neg q]
      refine ⟨n0 + 1, _, hunf, fun r hr => by rw [← h.fr r hr]; funext i; rw [up2_row hr], fun a a1 a2 => ?_, fun a b a1 b1 a2 b2 => ?_, pf k :: L, by rw [List.length_cons, l1], by rw [List.length_cons]; omega, fun P hP => ?_, ?_, fun n n1 n2 => ?_, fun P hP => ?_⟩
      · rw [hcell]
        rcases hs a a1 with q | q
        · rw [if_pos q]; omega
        · rw [if_neg (by omega)]
          have := h.cls a q a2
          omega
      · rw [hcell, hcell]
        rcases hs a a1 with q | q
        · rcases hs b b1 with w | w
          · rw [if_pos q, if_pos w, q, w]
            exact ⟨fun _ => rfl, fun _ => rfl⟩
          · rw [if_pos q, if_neg (by omega), q]
            have := h.cls b w b2
            exact ⟨fun z => by omega, fun z => absurd z.symm (hne b (by omega) b2)⟩
        · rcases hs b b1 with w | w
          · rw [if_neg (by omega), if_pos w, w]
            have := h.cls a q a2
            exact ⟨fun z => by omega, fun z => absurd z (hne a (by omega) a2)⟩
          · rw [if_neg (by omega), if_neg (by omega)]
            exact h.same a b q w a2 b2
      · rcases List.mem_cons.mp hP with q | q
        · rw [q]; exact hB.ap k hk
        · exact l2 P q
      · rw [List.map_cons, List.nodup_cons]
        refine ⟨fun q => ?_, l3⟩
        obtain ⟨P, p1, p2⟩ := List.mem_map.mp q
        obtain ⟨n, n1, n2, n3⟩ := l5 P p1
        rw [← n3] at p2
        exact hne n (by omega) n2 p2
      · rcases hs n n1 with q | q
        · exact ⟨pf k, List.mem_cons_self, by rw [q]⟩
        · obtain ⟨Q, q1, q2⟩ := l4 n q n2
          exact ⟨Q, List.mem_cons_of_mem _ q1, q2⟩
      · rcases List.mem_cons.mp hP with q | q
        · exact ⟨k, Nat.le_refl _, hk, q.symm⟩
        · obtain ⟨n, n1, n2, n3⟩ := l5 P q
          exact ⟨n, by omega, n2, n3⟩
    · have hc := h.cls o (by omega) (by omega)
      rw [if_neg (by omega)] at hunf
      unfold B_X11_sharedSize_217 at hunf
      rw [hwk trivial, o4] at hunf
      exact ⟨n0, _, hunf, hfin o o1 (by omega) o3⟩
  have h36 : ¬ idl τ m (pf k) → L_X11_sharedSize_9 n0 k s = B_X11_sharedSize_36 n0 k s → ∃ (n1 : Nat) (s' : Sg), L_X11_sharedSize_9 n0 k s = some (.inl ((n1 : Int), (k : Int) - 1, s')) ∧ RInv τ s' m pf N k n1 := fun hni e => by
    have e2 : iter (fun z : (Bool × Int) => L_X11_sharedSize_41 k s z.1 z.2) 3000 (false, 1) = some false := iter_r (f := fun z : (Bool × Int) => L_X11_sharedSize_41 k s z.1 z.2) (n := 2999) (a := (false, 1)) (by
      show L_X11_sharedSize_41 k s false 1 = _
      unfold L_X11_sharedSize_41
      rw [r45, Option.bind_some, if_neg (show ¬ false = true by decide)]
      split <;> rfl)
    rw [e]
    unfold B_X11_sharedSize_36 B_X11_sharedSize_37
    rw [e2, Option.bind_some, if_neg (by decide)]
    exact h120 hni
  have hk0 : ¬ (k : Int) < 0 := by omega
  by_cases c5 : τ 41 k = 5
  · by_cases cw : wid τ (qry τ m (pf k)) = 0
    · refine h36 (fun z => by have := z.2.1; omega) ?_
      unfold L_X11_sharedSize_9
      rw [if_neg hk0, r41, Option.bind_some, if_pos c5, r45, Option.bind_some, if_pos (by omega)]
    · obtain ⟨-, b, b1, b2⟩ := allsame_m hB hR hk (Nat.le_refl _) (show 0 < wid τ (qry τ m (pf k)) by omega) (hok k hk).2
      have hunf : L_X11_sharedSize_9 n0 k s = B_X11_sharedSize_37 n0 k true s := by
        unfold L_X11_sharedSize_9
        rw [if_neg hk0, r41, Option.bind_some, if_pos c5, r45, Option.bind_some, if_neg (by omega)]
      unfold B_X11_sharedSize_37 at hunf
      rw [b1, Option.bind_some] at hunf
      by_cases g : b = true
      · have hid : idl τ m (pf k) := ⟨c1.mp c5, by omega, b2.mp g⟩
        obtain ⟨w1, w2, w3⟩ := f3 0 hid.2.1
        have r46f : rdn 512 s 46 (f : Int) = some (s 46 (f + 0)) := by rw [rdn_ok (by omega) (by omega), show ((f : Int)).toNat = f + 0 by omega]
        have hc := h.cls (f + 0) (by omega) w2
        rw [if_pos g, r44, Option.bind_some, r46f, Option.bind_some] at hunf
        refine ⟨n0, up2 s 46 k (s 46 (f + 0)), ?_, hfin (f + 0) (by omega) w2 (by rw [w3, cdP_i (hlen k hk) hid])⟩
        rw [hunf]
        unfold B_X11_sharedSize_120 B_X11_sharedSize_217
        rw [wrn_ok (by omega) (by omega), Option.bind_some, hkk, hwN, bnd_eq]
        have e3 : iter (fun a : (Int × Sg) => L_X11_sharedSize_129 k a.1 a.2) 3000 (((N - 1 : Nat) : Int), up2 s 46 k (s 46 (f + 0))) = some (up2 s 46 k (s 46 (f + 0))) := by
          refine iter_r (f := fun a : (Int × Sg) => L_X11_sharedSize_129 k a.1 a.2) (n := 2999) (a := (((N - 1 : Nat) : Int), up2 s 46 k (s 46 (f + 0)))) ?_
          show L_X11_sharedSize_129 k ((N - 1 : Nat) : Int) (up2 s 46 k (s 46 (f + 0))) = _
          unfold L_X11_sharedSize_129
          by_cases gk : ((N - 1 : Nat) : Int) ≤ (k : Int)
          · rw [if_pos gk]
          · rw [if_neg gk, rdn_ok (by omega) (by omega), Option.bind_some, hkk, up2_at rfl rfl, if_neg (by omega)]
        rw [e3, Option.bind_some, rdn_ok (by omega) (by omega), Option.bind_some, hkk, up2_at rfl rfl, if_neg (by omega), hwk trivial]
      · rw [if_neg g] at hunf
        rw [hunf]
        exact h120 (fun z => g (b2.mpr z.2.2))
  · refine h36 (fun z => c5 (c1.mpr z.1)) ?_
    unfold L_X11_sharedSize_9
    rw [if_neg hk0, r41, Option.bind_some, if_neg c5]
theorem rshared_l {τ : Sg} {m : Bool} {pf : Nat → Pth} {N : Nat} (hB : BI τ τ m pf N N) (hlen : ∀ n, n < N → (pf n).length ≤ 499) (hok : ∀ n, n < N → okAs (qry τ m (pf n)) ∧ wid τ (qry τ m (pf n)) ≤ 10) : ∀ (k fu n0 : Nat) (s : Sg), k ≤ N → k < fu → RInv τ s m pf N k n0 → ∃ (n1 : Nat) (s' : Sg), iter (fun a : (Int × Int × Sg) => L_X11_sharedSize_9 a.1 a.2.1 a.2.2) fu ((n0 : Int), (k : Int) - 1, s) = some ((n1 : Int), s') ∧ RInv τ s' m pf N 0 n1
  | 0, fu, n0, s, hk, hfu, h => by
    obtain ⟨fu, rfl⟩ : ∃ z, fu = z + 1 := ⟨fu - 1, by omega⟩
    refine ⟨n0, s, ?_, h⟩
    rw [iter_r (b := ((n0 : Int), s)) (by
      show L_X11_sharedSize_9 n0 (((0 : Nat) : Int) - 1) s = _
      unfold L_X11_sharedSize_9
      rw [if_pos (by omega)])]
  | k + 1, fu, n0, s, hk, hfu, h => by
    obtain ⟨fu, rfl⟩ : ∃ z, fu = z + 1 := ⟨fu - 1, by omega⟩
    obtain ⟨n1, s1, e1, e2⟩ := rshared_s hB h (by omega) hlen hok
    obtain ⟨n2, s', g1, g2⟩ := rshared_l hB hlen hok k fu n1 s1 (by omega) (by omega) e2
    refine ⟨n2, s', ?_, g2⟩
    rw [show ((k + 1 : Nat) : Int) - 1 = (k : Int) by omega, iter_l (f := fun a : (Int × Int × Sg) => L_X11_sharedSize_9 a.1 a.2.1 a.2.2) (a := ((n0 : Int), (k : Int), s)) e1]
    exact g1
theorem rshared_c {τ : Sg} {m : Bool} {pf : Nat → Pth} {N : Nat} (hB : BI τ τ m pf N N) (hok : ∀ n, n < N → okAs (qry τ m (pf n)) ∧ wid τ (qry τ m (pf n)) ≤ 10) : ∃ (K : Nat) (s' : Sg), F_X11_sharedSize τ = some ((K : Int), s') ∧ ShOK τ m K ∧ ∀ r, ¬ r = 46 → s' r = τ r := by
  have h500 := hB.n500
  have hpos := hB.pos
  have hlen : ∀ n, n < N → (pf n).length ≤ 499 := fun n hn => by have := hB.len n n (Nat.le_refl _) hn; omega
  have hI0 : RInv τ τ m pf N N 0 := ⟨fun r _ => rfl, fun a a1 a2 => by omega, fun a b a1 b1 a2 b2 => by omega, [], rfl, by show 0 + N ≤ N; omega, fun P hP => (by cases hP), List.nodup_nil, fun n n1 n2 => by omega, fun P hP => (by cases hP)⟩
  obtain ⟨n1, s', e1, e2⟩ := rshared_l hB hlen hok N 3000 0 τ (Nat.le_refl _) (by omega) hI0
  obtain ⟨L, l1, l0, l2, l3, l4, l5⟩ := e2.lst
  refine ⟨n1, s', ?_, ⟨L, l1, l2, l3, fun P hP => ?_⟩, e2.fr⟩
  · have e1' : iter (fun a : (Int × Int × Sg) => L_X11_sharedSize_9 a.1 a.2.1 a.2.2) 3000 (0, (N : Int) - 1, τ) = some ((n1 : Int), s') := e1
    unfold F_X11_sharedSize
    rw [hB.n56, wrap_id (by omega) (by omega), bnd_eq, e1', Option.bind_some]
  · obtain ⟨n, n1, n2⟩ := hB.tree.sur P hP
    obtain ⟨Q, q1, q2⟩ := l4 n (by omega) n1
    exact ⟨Q, q1, by rw [q2, n2]⟩
