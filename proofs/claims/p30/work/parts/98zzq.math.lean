/-! what is asked of a tree: missing, example, used -/
theorem miss_m {s : Sg} {N : Nat} (h : s 0 56 = N) (hN : N ≤ 500) : ∀ (d k fu : Nat), k + d = N → d < fu → iter (fun a : (Int × Int) => L_X11_missing_30 s a.1 a.2) fu ((((cl (fun n => decide (s 41 n = 2)) k : Nat) : Int)), (k : Int)) = some (((cl (fun n => decide (s 41 n = 2)) N : Nat) : Int))
  | 0, k, fu, hk, hfu => by
    obtain ⟨fu, rfl⟩ : ∃ z, fu = z + 1 := ⟨fu - 1, by omega⟩
    refine iter_r (f := fun a : (Int × Int) => L_X11_missing_30 s a.1 a.2) ?_
    show L_X11_missing_30 s _ (k : Int) = _
    unfold L_X11_missing_30
    rw [if_pos (by omega), show k = N by omega]
  | d + 1, k, fu, hk, hfu => by
    obtain ⟨fu, rfl⟩ : ∃ z, fu = z + 1 := ⟨fu - 1, by omega⟩
    have hle : cl (fun n => decide (s 41 n = 2)) k ≤ k := by
      unfold cl
      have := List.length_filter_le (fun n => decide (s 41 n = 2)) (List.range k)
      rw [List.length_range] at this
      exact this
    have e : L_X11_missing_30 s ((cl (fun n => decide (s 41 n = 2)) k : Nat) : Int) (k : Int) = some (.inl (((cl (fun n => decide (s 41 n = 2)) (k + 1) : Nat) : Int), ((k + 1 : Nat) : Int))) := by
      unfold L_X11_missing_30
      rw [if_neg (by omega), rdn_ok (by omega) (by omega), Option.bind_some, show ((k : Nat) : Int).toNat = k by omega, cl_s]
      unfold B_X11_missing_54
      rw [wrap_id (z := (k : Int) + 1) (by omega) (by omega)]
      by_cases g : s 41 k = 2
      · rw [if_pos g, bnd_eq, show b2i true = 1 from rfl, wrap_id (by omega) (by omega), if_pos (show decide (s 41 k = 2) = true by rw [g]; rfl)]
        rfl
      · rw [if_neg g, bnd_eq, show b2i false = 0 from rfl, wrap_id (by omega) (by omega), if_neg (show ¬ decide (s 41 k = 2) = true by rw [decide_eq_true_iff]; exact g)]
        rfl
    rw [iter_l (f := fun a : (Int × Int) => L_X11_missing_30 s a.1 a.2) (a := (((cl (fun n => decide (s 41 n = 2)) k : Nat) : Int), (k : Int))) e]
    exact miss_m h hN d (k + 1) fu (by omega) (by omega)
theorem miss_c {s : Sg} (h : 0 ≤ s 0 56 ∧ s 0 56 ≤ 500) : iter (fun a : (Int × Int) => L_X11_missing_30 s a.1 a.2) 3000 (0, 0) = some (((cl (fun n => decide (s 41 n = 2)) (s 0 56).toNat : Nat) : Int)) :=
  miss_m (N := (s 0 56).toNat) (by omega) (by omega) (s 0 56).toNat 0 3000 (by omega) (by omega)
/-- the missed nodes are as many on both sides -/
theorem missed_eq {σ s : Sg} {t : Nat} {m : Bool} {pf pf' : Nat → Pth} {S : Nat → Nat} {N N' B : Nat} (hW : WFP s) (hF : WFK (s 1) (s 2) (s 3)) (hM : WFM s) (hWW : WFW s) (hD : GD s σ t m pf S N B) (hB : BI s s m pf' N' N') : cl (fun n => decide (s 41 n = 2)) (s 0 56).toNat = cl (fun n => decide ((qry s m (pf n)).1 = 2)) N := by
  have e : (s 0 56).toNat = N' := by rw [hB.n56]; omega
  rw [e, hD.tree.cl_eq hB.tree (fun P => decide ((qry s m P).1 = 2))]
  refine cl_congr N' (fun n hn => ?_)
  have q := qry_ok hW hF hM hWW (hB.ap n hn)
  obtain ⟨c1, c2, c3, c4, -⟩ := ask_cells (hB.fin n hn).1 q.1.1
  by_cases g : s 41 n = 2
  · rw [decide_eq_true g, decide_eq_true (c4.mp g)]
  · rw [decide_eq_false g, decide_eq_false (fun z => g (c4.mpr z))]
theorem w_missing : Op_missing RelW := fun σ τ h hs ht => by
  obtain ⟨hW, hF, hM, hV, hWW⟩ := h.wf
  have hM1 := hM.1
  have hi := isThere4 h.1.2.2.2.2.1
  unfold F_X10_missing F_X11_missing
  by_cases c2 : τ 0 21 = 0
  · rw [if_neg (fun q => (hi.mp q) (by omega)), if_pos c2]
    unfold B_X11_missing_13
    rw [show b2i true = 1 from rfl, refused_n (by omega), bnd_eq]
    exact ⟨_, _, rfl, rfl, ag_x (τ := τ) (t := 1) rfl (by omega) (by omega), h.z⟩
  · rw [if_pos (hi.mpr (by omega)), if_neg c2]
    unfold B_X11_missing_13
    rw [show b2i false = 0 from rfl, refused_0, bnd_eq]
    dsimp only
    rw [if_neg (show ¬ false = true by decide)]
    obtain ⟨σ', s', u1, u2, u3, u4, u5, u6⟩ := w_both (h.z (t := 0)) (inRt_up ht) (e := 2) (t := 43) (m := false) (Or.inl ⟨rfl, rfl, rfl⟩)
    have z0 : s' 0 0 = 0 := by rw [u4 0 (by omega), up2_at rfl rfl]
    obtain ⟨hWs, hFs, hMs, hVs, hWWs⟩ := u3.wf
    rw [u1, u2, Option.bind_some, Option.bind_some]
    dsimp only
    rcases u5 with ⟨v1, v2, ⟨pf, S, N, B, v3, v4⟩, pf', N', v5⟩ | ⟨v1, v2, v3⟩
    · have h56 := v5.n56
      have h500 := v5.n500
      rw [decide_eq_true v1, if_pos (show true = true from rfl), miss_c ⟨by omega, by omega⟩, Option.bind_some, if_pos v2, missed_eq hWs hFs hMs hWWs v4 v5]
      refine ⟨_, _, rfl, rfl, ⟨z0, ?_⟩, u3⟩
      show _ = F_X7_missedCount 43 σ'
      unfold F_X7_missedCount
      rw [v4.1.mis]
    · rw [decide_eq_false (by omega), if_neg (show ¬ false = true by decide), miss_c v3, Option.bind_some, if_neg (show ¬ s' 0 55 = 0 by omega)]
      exact ⟨_, _, rfl, rfl, ⟨z0, rfl⟩, u3⟩
/-- at no place is a way's head known before the first -/
theorem hk_low {τ : Sg} {m : Bool} {P : Pth} {pl : Int} (hW : WFP τ) (hF : WFK (τ 1) (τ 2) (τ 3)) (hM : WFM τ) (hWW : WFW τ) (h : AP τ m P) (hp : pl < 1) : hk P pl = -9 := by
  by_cases g : hk P pl = -9
  · exact g
  · have q := (AP.kp hW hF hM hWW h).ent hF hM pl g
    have q1 := q.1
    omega
theorem w_example : Op_example RelW := fun σ τ a h _ hs ht => by
  obtain ⟨hW, hF, hM, hV, hWW⟩ := h.wf
  have hM1 := hM.1
  have hi := isThere4 h.1.2.2.2.2.1
  have hno : ∀ s : Sg, B_X11_example_30 a (-1) s = some (0, up2 s 0 0 1) := fun s => by
    unfold B_X11_example_30 B_X11_example_41
    rw [if_pos rfl, show b2i true = 1 from rfl, refused_n (by omega), bnd_eq]
    rfl
  unfold F_X10_example F_X11_example
  by_cases c2 : τ 0 21 ≤ 0
  · rw [if_neg (fun q => (hi.mp q) c2), if_pos c2, hno]
    exact ⟨_, _, rfl, rfl, ag_x (τ := τ) (t := 1) rfl (by omega) (by omega), h.z⟩
  · rw [if_pos (hi.mpr c2), if_neg c2]
    obtain ⟨σ', s', u1, u2, u3, u4, u5, u6⟩ := w_both h ht (e := 2) (t := 43) (m := false) (Or.inl ⟨rfl, rfl, rfl⟩)
    obtain ⟨hWs, hFs, hMs, hVs, hWWs⟩ := u3.wf
    rw [u1, u2, Option.bind_some, Option.bind_some]
    dsimp only
    unfold B_X11_example_29
    rcases u5 with ⟨v1, v2, ⟨pf, S, N, B, v3, v4⟩, pf', N', v5⟩ | ⟨v1, v2, v3⟩
    · rw [decide_eq_true v1, if_pos (show true = true from rfl), if_pos v2]
      have hmis : F_X7_missedCount 43 σ' = ((cl (fun n => decide ((qry s' false (pf n)).1 = 2)) N : Nat) : Int) := v4.1.mis
      obtain ⟨s2, w1, w2⟩ := firstMissed_m v5 (fun n hn => by
        have q := qry_ok hWs hFs hMs hWWs (v5.ap n hn)
        exact ⟨q.1, q.2.1⟩)
      rcases w2 with ⟨n', x1, x2, x3⟩ | ⟨x1, x2⟩
      · have hpos : 0 < cl (fun n => decide ((qry s' false (pf n)).1 = 2)) N := by
          rw [v4.tree.cl_eq v5.tree (fun P => decide ((qry s' false P).1 = 2))]
          exact cl_pos N' x2 (decide_eq_true x3.2.1)
        obtain ⟨n, y1, y2, y3⟩ := firstMissed_k v4 hpos
        have hpf : pf n = pf' n' := y3.eq x3
        rw [hmis, if_neg (by omega), x1, Option.bind_some]
        unfold B_X10_example_35 B_X11_example_30
        rw [if_pos rfl, if_neg (show ¬ ((n' : Nat) : Int) = -1 by omega), exampleAt_k v4 (by omega) (fun k hk => by
          have q := qry_ok hWs hFs hMs hWWs (v4.1.ap k hk)
          exact ⟨q.1, q.2.1⟩) y2 y1, Option.bind_some, hpf]
        unfold B_X11_example_41
        rw [show b2i false = 0 from rfl, refused_0, bnd_eq]
        dsimp only
        rw [if_neg (show ¬ false = true by decide), bnd_eq, bnd_eq]
        obtain ⟨s3, hs3⟩ : ∃ s3, s3 = up2 (up2 (up2 s2 0 0 0) 0 40 0) 0 41 (n' : Int) := ⟨_, rfl⟩
        have r3 : ∀ r, ¬ r = 0 → s3 r = s2 r := fun r hr => by
          funext i
          rw [hs3, up2_row hr, up2_row hr, up2_row hr]
        have i3 : ∀ i, ¬ i = 0 → ¬ i = 40 → ¬ i = 41 → s3 0 i = s' 0 i := fun i i0 i1 i2 => by
          rw [hs3, up2_idx i2, up2_idx i1, up2_idx i0, w1 0 (by omega)]
        have hz : s3 0 0 = 0 := by rw [hs3, up2_idx (by omega), up2_idx (by omega), up2_at rfl rfl]
        have h40 : s3 0 40 = 0 := by rw [hs3, up2_idx (by omega), up2_at rfl rfl]
        have h41 : s3 0 41 = n' := by rw [hs3, up2_at rfl rfl]
        rw [← hs3]
        have hrel : RelW σ' s3 := u3.tau2 (fun r r0 r1 r2 r4 => by rw [r3 r r0, w1 r r4]) i3
        have hfact : (if 1 ≤ a then (F_X11_factAt a s3).bind fun q7 => B_X11_example_74 q7.1 q7.2 else B_X11_example_74 (-9) s3) = some (exV (hk (pf' n') a), s3) := by
          have h74 : ∀ v : Int, B_X11_example_74 v s3 = some (exV v, s3) := fun v => by
            unfold B_X11_example_74 exV
            by_cases g : v = -9
            · rw [if_pos g, if_pos g]
            · rw [if_neg g, if_neg g]
          by_cases g : 1 ≤ a
          · have hR : RTs s3 pf' N' := by
              have q := (v5.fr (s' := s3) (i3 56 (by omega) (by omega) (by omega)) (fun r r1 r2 => by rw [r3 r (by omega), w1 r (by omega)])).rts
              exact q
            rw [if_pos g, factK (τ := s') hR x2 (AP.kp hWs hFs hMs hWWs (v5.ap n' x2)) h40 h41 (by omega), Option.bind_some]
            exact h74 _
          · rw [if_neg g, hk_low hWs hFs hMs hWWs (v5.ap n' x2) (by omega)]
            exact h74 _
        rw [hfact]
        exact ⟨_, _, rfl, rfl, ⟨hz, rfl⟩, hrel⟩
      · have hzero : cl (fun n => decide ((qry s' false (pf n)).1 = 2)) N = 0 := by
          have e : cl (fun n => decide ((qry s' false (pf n)).1 = 2)) N = cl (fun _ => false) N := cl_congr N (fun n hn => decide_eq_false (x2 (pf n) (v4.1.ap n hn)))
          rw [e]
          have := cl_up (b := fun _ => false) (m := 0) N (fun _ _ _ => rfl)
          rw [Nat.zero_add] at this
          rw [this]
          rfl
        rw [hmis, hzero, if_pos (by omega), x1, Option.bind_some, hno]
        unfold B_X10_example_35
        rw [if_neg (show ¬ false = true by decide)]
        exact ⟨_, _, rfl, rfl, ag_x (τ := s2) (t := 1) rfl (by omega) (by omega), (u3.tau2 (fun r r0 r1 r2 r4 => w1 r r4) (fun i _ _ _ => by rw [w1 0 (by omega)])).z⟩
    · rw [decide_eq_false (by omega), if_neg (show ¬ false = true by decide), if_neg (show ¬ s' 0 55 = 0 by omega), hno]
      exact ⟨_, _, rfl, rfl, ag_x (τ := s') (t := 1) rfl (by omega) (by omega), u3.z⟩
