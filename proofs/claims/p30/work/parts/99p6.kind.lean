/-! the law's methods -/
abbrev m_L_kind : Mr := (12, yL_kind, cL_kind, 1, (some .int))
abbrev m_L_refuses : Mr := (12, yL_refuses, cL_refuses, 11, (some .boolean))
abbrev m_L_act : Mr := (12, yL_act, cL_act, 7, (some .int))
abbrev m_L_keep : Mr := (12, yL_keep, cL_keep, 6, none)
abbrev m_L_alike : Mr := (12, yL_alike, cL_alike, 6, (some .boolean))
abbrev m_L_agrees : Mr := (12, yL_agrees, cL_agrees, 18, (some .boolean))
abbrev m_L_drawn : Mr := (12, yL_drawn, cL_drawn, 2, (some .int))
theorem dg_kind_2 : decode m_L_kind.2.2.1 2 = .ok (.irem, 1) := by decide +kernel
theorem dg_kind_3 : decode m_L_kind.2.2.1 3 = .ok (.ifCond .ne 7, 3) := by decide +kernel
theorem dg_kind_7 : decode m_L_kind.2.2.1 7 = .ok (.goto 15, 3) := by decide +kernel
theorem dg_kind_12 : decode m_L_kind.2.2.1 12 = .ok (.irem, 1) := by decide +kernel
theorem dg_kind_14 : decode m_L_kind.2.2.1 14 = .ok (.if_icmp .ne 7, 3) := by decide +kernel
theorem dg_kind_18 : decode m_L_kind.2.2.1 18 = .ok (.goto 4, 3) := by decide +kernel
theorem dg_kind_22 : decode m_L_kind.2.2.1 22 = .ok (.ireturn, 1) := by decide +kernel
theorem og_kind_0_2 : oks 12 m_L_kind.2.2.1 0 [(.iload_n 0, 1, (0, 0, 0)), (.iconst 4, 1, (0, 0, 0))] = true ∧ plen 0 [(.iload_n 0, 1, (0, 0, 0)), (.iconst 4, 1, (0, 0, 0))] = 2 := by decide +kernel
theorem og_kind_6_1 : oks 12 m_L_kind.2.2.1 6 [(.iconst 0, 1, (0, 0, 0))] = true ∧ plen 6 [(.iconst 0, 1, (0, 0, 0))] = 7 := by decide +kernel
theorem og_kind_10_2 : oks 12 m_L_kind.2.2.1 10 [(.iload_n 0, 1, (0, 0, 0)), (.iconst 4, 1, (0, 0, 0))] = true ∧ plen 10 [(.iload_n 0, 1, (0, 0, 0)), (.iconst 4, 1, (0, 0, 0))] = 12 := by decide +kernel
theorem og_kind_13_1 : oks 12 m_L_kind.2.2.1 13 [(.iconst 1, 1, (0, 0, 0))] = true ∧ plen 13 [(.iconst 1, 1, (0, 0, 0))] = 14 := by decide +kernel
theorem og_kind_17_1 : oks 12 m_L_kind.2.2.1 17 [(.iconst 5, 1, (0, 0, 0))] = true ∧ plen 17 [(.iconst 5, 1, (0, 0, 0))] = 18 := by decide +kernel
theorem og_kind_21_1 : oks 12 m_L_kind.2.2.1 21 [(.iconst 4, 1, (0, 0, 0))] = true ∧ plen 21 [(.iconst 4, 1, (0, 0, 0))] = 22 := by decide +kernel
def kindF (x : Int) : Int := (if (jrem x 4) = 0 then 0 else (if (jrem x 4) = 1 then 5 else 4 : Int) : Int)
theorem lc_kind (l : Launch) (d : Nat) (x : Int) : LC l d 0 m_L_kind.2.1 (wsM m_L_kind.2.1 m_L_kind.2.2.1 m_L_kind.2.2.2.1 m_L_kind.2.2.2.2) [.inl x] [] [] [] (some (kindF x)) [] :=
  gl_lc (n := 1) (as := [.inl x]) mok_L_kind rfl (by decide +kernel) (Nat.le_of_ble_eq_true rfl) (by
    show Gl l m_L_kind d 0 [] [] (some (kindF x)) [] 0 0 [some (.inl x)] [] []
    refine gl_ops (S := ([], (fun _ _ => 0))) (S' := ([], (fun _ _ => 0))) og_kind_0_2 (by decide) (L' := [some (.inl x)]) (st' := [.inl 4, .inl x]) rfl ?_
    refine gl_rem dg_kind_2 (by decide) ?_
    suffices hJ1 : Gl l m_L_kind d 0 [] [] (some (kindF x)) [] 0 22 [some (.inl x)] [.inl (if (jrem x 4) = 0 then 0 else (if (jrem x 4) = 1 then 5 else 4 : Int) : Int)] [] by
      refine gl_if_ne dg_kind_3 (tgt := 10) (by rfl) (fun hc2 => ?_) (fun hc2 => ?_)
      · refine gl_ops (S := ([], (fun _ _ => 0))) (S' := ([], (fun _ _ => 0))) og_kind_10_2 (by decide) (L' := [some (.inl x)]) (st' := [.inl 4, .inl x]) rfl ?_
        refine gl_rem dg_kind_12 (by decide) ?_
        refine gl_ops (S := ([], (fun _ _ => 0))) (S' := ([], (fun _ _ => 0))) og_kind_13_1 (by decide) (L' := [some (.inl x)]) (st' := [.inl 1, .inl (jrem x 4)]) rfl ?_
        refine gl_icmp_ne dg_kind_14 (tgt := 21) (by rfl) (fun hc3 => ?_) (fun hc3 => ?_)
        · refine gl_ops (S := ([], (fun _ _ => 0))) (S' := ([], (fun _ _ => 0))) og_kind_21_1 (by decide) (L' := [some (.inl x)]) (st' := [.inl 4]) rfl ?_
          exact gl_st (by rw [if_neg hc2, if_neg hc3]) hJ1
        · refine gl_ops (S := ([], (fun _ _ => 0))) (S' := ([], (fun _ _ => 0))) og_kind_17_1 (by decide) (L' := [some (.inl x)]) (st' := [.inl 5]) rfl ?_
          refine gl_goto dg_kind_18 (tgt := 22) (by rfl) ?_
          exact gl_st (by rw [if_neg hc2, if_pos hc3]) hJ1
      · refine gl_ops (S := ([], (fun _ _ => 0))) (S' := ([], (fun _ _ => 0))) og_kind_6_1 (by decide) (L' := [some (.inl x)]) (st' := [.inl 0]) rfl ?_
        refine gl_goto dg_kind_7 (tgt := 22) (by rfl) ?_
        exact gl_st (by rw [if_pos hc2]) hJ1
    exact gl_iret (by decide) dg_kind_22 rfl)
theorem gl_kind {l : Launch} {M : Mr} {d g : Nat} {F : Fr} {rs : List Nat} {v : Option Int} {ss' : List Sg} {kg pc : Nat} {L : List (Option AV)} {st : List AV} {ss : List Sg} {y : Int} (hd : decode M.2.2.1 pc = .ok (.invokestatic 164, 3)) (hd1 : 0 + 1 ≤ d) (hkg : kg ≤ g) (hst : st.length ≤ 8)
    (kk : Gl l M d g F rs v ss' kg (pc + 3) L (.inl (kindF y) :: st) ss) : Gl l M d g F rs v ss' kg pc L (.inl y :: st) ss :=
  gl_S (M1 := m_L_kind) (g1 := 0) (as := [.inl y]) (as' := [.inl y]) (v1 := some (kindF y)) hd ln_12_164 sm_L_kind mok_L_kind rfl hst hd1 rfl hkg sel_0 (cv_n (vs := [y])) (lc_kind l 0 y) _ rfl kk
