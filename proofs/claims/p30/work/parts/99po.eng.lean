/-! what is refused: the law of it -/
theorem lo_c {x p q : Int} : (if (if (jrem x 2) = 0 then 1 else 0 : Int) = 0 then p else q : Int) = p ∨ (if (if (jrem x 2) = 0 then 1 else 0 : Int) = 0 then p else q : Int) = q := by split <;> simp
set_option maxHeartbeats 4000000 in
theorem ref_ok {l : Launch} (hl : l.stackTraces = false) {σ τ ν : Sg} {x : Int} (h : RelW σ τ) (hcn : Cn ν τ) (hx : 0 ≤ x ∧ x < 10000) (d : Nat) (ax : List Nat) (an a0 : Nat) (hd : 161 ≤ d) (hax : ax[0]? = some a0) : LC l d 70 m_L_refuses.2.1 (wsM m_L_refuses.2.1 m_L_refuses.2.2.1 m_L_refuses.2.2.2.1 m_L_refuses.2.2.2.2) [.inr 0, .inr 1, .inl x] [a0, an] [(ax, LAYC), FN an] [σ, ν] (some 1) [σ, ν] := by
  have hb := rel_b h
  obtain ⟨n0, n1, n2, n3⟩ := hcn
  have r4' := jrx hx.1 4 (by decide)
  have r4 : 0 ≤ jrem x 4 ∧ jrem x 4 ≤ 3 := by omega
  have r3' := jrx hx.1 3 (by decide)
  have r3 : 0 ≤ jrem x 3 ∧ jrem x 3 ≤ 2 := by omega
  have r5 := jrx hx.1 5 (by decide)
  have r9 := jrx hx.1 9 (by decide)
  have r2 := jrx hx.1 2 (by decide)
  have hC : ∀ {t c : Int}, 0 ≤ t ∧ t ≤ 3 → 0 ≤ c ∧ c < τ 1 t.toNat → ¬ (0 ≤ c ∧ c ≤ 3) → False := fun {t c} g1 g2 g3 => by
    have := (h.wf.2.1.1 t.toNat (by omega)).2
    omega
  have hn : ¬ ν 0 2 = 0 → 0 ≤ jrem x (ν 0 2) ∧ jrem x (ν 0 2) < τ 0 23 := fun g => by
    have := jrx hx.1 (ν 0 2) (by omega)
    omega
  have c_99 : F_X10_constructor (if (if (jrem x 2) = 0 then 1 else 0 : Int) = 0 then wrap (4 + x) else wrap ((-1) - x) : Int) 0 0 0 0 σ = some (.inr 0, σ) := by
    rcases lo_c (x := x) (p := wrap (4 + x)) (q := wrap ((-1) - x)) with e | e <;> (rw [e, wrap_id (by omega) (by omega)]; exact con_a (by omega))
  have c_127 : F_X10_constructor (jrem x 4) (if (if (jrem x 2) = 0 then 1 else 0 : Int) = 0 then wrap (4 + x) else wrap ((-1) - x) : Int) 0 0 0 σ = some (.inr 1, σ) := by
    rcases lo_c (x := x) (p := wrap (4 + x)) (q := wrap ((-1) - x)) with e | e <;> (rw [e, wrap_id (by omega) (by omega)]; exact con_b r4 (by omega))
  have c_156 : F_X10_constructor (jrem x 4) 1 (if (if (jrem x 2) = 0 then 1 else 0 : Int) = 0 then wrap (6 + x) else wrap ((-1) - x) : Int) 0 0 σ = some (.inr 1, σ) := by
    rcases lo_c (x := x) (p := wrap (6 + x)) (q := wrap ((-1) - x)) with e | e <;> (rw [e, wrap_id (by omega) (by omega)]; exact con_c r4 (by omega))
  have c_176 : F_X10_constructor (jrem x 4) 1 4 (wrap (1 + (jrem x 5))) 0 σ = some (.inr 1, σ) := by
    rw [wrap_s (by omega) (by omega)]
    exact con_d r4 (by omega)
  have c_199 : F_X10_num (if (if (jrem x 2) = 0 then 1 else 0 : Int) = 0 then wrap (10 + x) else wrap ((-1) - x) : Int) σ = some (.inr 1, σ) := by
    rcases lo_c (x := x) (p := wrap (10 + x)) (q := wrap ((-1) - x)) with e | e <;> (rw [e, wrap_id (by omega) (by omega)]; exact num_a (by omega))
  have c_224 : F_X10_seq (if (if (jrem x 2) = 0 then 1 else 0 : Int) = 0 then wrap (4 + x) else wrap ((-1) - x) : Int) 0 0 0 σ = some (.inr 1, σ) := by
    rcases lo_c (x := x) (p := wrap (4 + x)) (q := wrap ((-1) - x)) with e | e <;> (rw [e, wrap_id (by omega) (by omega)]; exact seq_a (by omega))
  have c_239 : F_X10_seq 1 3 (wrap (1 + x)) 0 σ = some (.inr 1, σ) := by
    rw [wrap_s (by omega) (by omega)]
    exact seq_b (by omega)
  have c_265 : F_X10_data (if (if (jrem x 2) = 0 then 1 else 0 : Int) = 0 then wrap (4 + x) else wrap ((-1) - x) : Int) 0 (-1) (-1) (-1) σ = some (.inr 0, σ) := by
    rcases lo_c (x := x) (p := wrap (4 + x)) (q := wrap ((-1) - x)) with e | e <;> (rw [e, wrap_id (by omega) (by omega)]; exact data_a h (fun q => by have := q.1; omega))
  have c_293 : F_X10_data (jrem x 4) (if (if (jrem x 2) = 0 then 1 else 0 : Int) = 0 then wrap (4 + x) else wrap ((-1) - x) : Int) (-1) (-1) (-1) σ = some (.inr 0, σ) := by
    rcases lo_c (x := x) (p := wrap (4 + x)) (q := wrap ((-1) - x)) with e | e <;> (rw [e, wrap_id (by omega) (by omega)]; exact data_a h (fun q => hC r4 q.2 (by omega)))
  have c_317 : F_X10_name (if (if (jrem x 2) = 0 then 1 else 0 : Int) = 0 then wrap (6 + x) else wrap ((-1) - x) : Int) 0 σ = some (.inr 0, σ) := by
    rcases lo_c (x := x) (p := wrap (6 + x)) (q := wrap ((-1) - x)) with e | e <;> (rw [e, wrap_id (by omega) (by omega)]; exact name_a (by omega))
  have c_332 : F_X10_name (jrem x 6) (if (if (jrem x 2) = 0 then 1 else 0 : Int) = 0 then wrap ((ν 0 1) + x) else wrap ((-2) - x) : Int) σ = some (.inr 0, σ) := by
    rcases lo_c (x := x) (p := wrap ((ν 0 1) + x)) (q := wrap ((-2) - x)) with e | e <;> (rw [e, wrap_id (by omega) (by omega)]; exact name_b h (fun q => by have := q.1; have := q.2; omega))
  have c_345 : F_X10_range (if (if (jrem x 2) = 0 then 1 else 0 : Int) = 0 then wrap (60 + x) else wrap ((-1) - x) : Int) 9 σ = some (.inr 1, σ) := by
    rcases lo_c (x := x) (p := wrap (60 + x)) (q := wrap ((-1) - x)) with e | e <;> (rw [e, wrap_id (by omega) (by omega)]; exact range_a (by omega))
  have c_358 : F_X10_range 5 (jrem x 5) σ = some (.inr 1, σ) := by
    exact range_b (by omega)
  have c_373 : F_X10_make (if (if (jrem x 2) = 0 then 1 else 0 : Int) = 0 then wrap (60 + x) else wrap ((-1) - x) : Int) 0 (-1) (-1) (-1) σ = some (.inr 0, σ) := by
    rcases lo_c (x := x) (p := wrap (60 + x)) (q := wrap ((-1) - x)) with e | e <;> (rw [e, wrap_id (by omega) (by omega)]; exact make_a h (fun q => by have := q.1; omega))
  have c_391 : F_X10_make (jrem x 4) (wrap (4 + x)) (-1) (-1) (-1) σ = some (.inr 0, σ) := by
    rw [wrap_id (by omega) (by omega)]
    exact make_a h (fun q => hC r4 q.2 (by omega))
  have c_403 : F_X10_either (if (if (jrem x 2) = 0 then 1 else 0 : Int) = 0 then wrap ((ν 0 1) + x) else wrap ((-2) - x) : Int) 0 σ = some (.inr 0, σ) := by
    rcases lo_c (x := x) (p := wrap ((ν 0 1) + x)) (q := wrap ((-2) - x)) with e | e <;> (rw [e, wrap_id (by omega) (by omega)]; exact either_a h (fun q => by have := q.1; have := q.2; omega))
  have c_426 : F_X10_view (if (if (jrem x 2) = 0 then 1 else 0 : Int) = 0 then wrap (3 + x) else wrap ((-1) - x) : Int) 0 σ = some (.inr 0, σ) := by
    rcases lo_c (x := x) (p := wrap (3 + x)) (q := wrap ((-1) - x)) with e | e <;> (rw [e, wrap_id (by omega) (by omega)]; exact view_a (by omega))
  have c_440 : F_X10_view (jrem x 3) (if (if (jrem x 2) = 0 then 1 else 0 : Int) = 0 then wrap ((ν 0 1) + x) else wrap ((-2) - x) : Int) σ = some (.inr 0, σ) := by
    rcases lo_c (x := x) (p := wrap ((ν 0 1) + x)) (q := wrap ((-2) - x)) with e | e <;> (rw [e, wrap_id (by omega) (by omega)]; exact view_b h (fun q => by have := q.1; have := q.2; omega))
  have c_465 : F_X10_list (if (if (jrem x 2) = 0 then 1 else 0 : Int) = 0 then wrap (3 + x) else wrap ((-1) - x) : Int) (-1) (-1) 0 σ = some (.inr 1, σ) := by
    rcases lo_c (x := x) (p := wrap (3 + x)) (q := wrap ((-1) - x)) with e | e <;> (rw [e, wrap_id (by omega) (by omega)]; exact list_a h (by omega) (by omega))
  have c_479 : F_X10_list 1 (if (if (jrem x 2) = 0 then 1 else 0 : Int) = 0 then wrap ((ν 0 1) + x) else wrap ((-2) - x) : Int) (-1) 0 σ = some (.inr 0, σ) := by
    rcases lo_c (x := x) (p := wrap ((ν 0 1) + x)) (q := wrap ((-2) - x)) with e | e <;> (rw [e, wrap_id (by omega) (by omega)]; exact list_b h (fun q => by have := q.1; have := q.2; omega))
  have c_504 : F_X10_list 0 (-1) (-1) (if (if (jrem x 2) = 0 then 1 else 0 : Int) = 0 then wrap (3 + x) else wrap ((-1) - x) : Int) σ = some (.inr 0, σ) := by
    rcases lo_c (x := x) (p := wrap (3 + x)) (q := wrap ((-1) - x)) with e | e <;> (rw [e, wrap_id (by omega) (by omega)]; exact list_c h (by omega))
  have c_520 : F_X10_list 0 (jrem x 9) (-1) 0 σ = some (.inr 1, σ) := by
    exact list_d h (by omega)
  have c_558 : F_X10_setView (if (if (jrem x 2) = 0 then 1 else 0 : Int) = 0 then wrap (3 + x) else wrap ((-1) - x) : Int) 0 0 0 1 σ = some (.inr 0, σ) := by
    rcases lo_c (x := x) (p := wrap (3 + x)) (q := wrap ((-1) - x)) with e | e <;> (rw [e, wrap_id (by omega) (by omega)]; exact set_a (by omega))
  have c_588 : F_X10_setView (jrem x 3) (if (if (jrem x 2) = 0 then 1 else 0 : Int) = 0 then wrap (10 + x) else wrap ((-10) - x) : Int) 0 0 1 σ = some (.inr 1, σ) := by
    rcases lo_c (x := x) (p := wrap (10 + x)) (q := wrap ((-10) - x)) with e | e <;> (rw [e, wrap_id (by omega) (by omega)]; exact set_b r3 (Or.inl (by omega)))
  have c_618 : F_X10_setView (jrem x 3) 0 (if (if (jrem x 2) = 0 then 1 else 0 : Int) = 0 then wrap (10 + x) else wrap ((-10) - x) : Int) 0 1 σ = some (.inr 1, σ) := by
    rcases lo_c (x := x) (p := wrap (10 + x)) (q := wrap ((-10) - x)) with e | e <;> (rw [e, wrap_id (by omega) (by omega)]; exact set_b r3 (Or.inr (Or.inl (by omega))))
  have c_646 : F_X10_setView (jrem x 3) 0 0 0 (if (if (jrem x 2) = 0 then 1 else 0 : Int) = 0 then wrap (11 + x) else wrap (-x) : Int) σ = some (.inr 1, σ) := by
    rcases lo_c (x := x) (p := wrap (11 + x)) (q := wrap (-x)) with e | e <;> (rw [e, wrap_id (by omega) (by omega)]; exact set_b r3 (Or.inr (Or.inr (by omega))))
  have c_670 : F_X10_begin (if (if (jrem x 2) = 0 then 1 else 0 : Int) = 0 then wrap (4 + x) else wrap (-x) : Int) 0 0 0 σ = some (.inr 1, σ) := by
    rcases lo_c (x := x) (p := wrap (4 + x)) (q := wrap (-x)) with e | e <;> (rw [e, wrap_id (by omega) (by omega)]; exact beg_a (by omega))
  have c_696 : F_X10_begin 1 (if (if (jrem x 2) = 0 then 1 else 0 : Int) = 0 then wrap (6 + x) else wrap ((-1) - x) : Int) 0 0 σ = some (.inr 1, σ) := by
    rcases lo_c (x := x) (p := wrap (6 + x)) (q := wrap ((-1) - x)) with e | e <;> (rw [e, wrap_id (by omega) (by omega)]; exact beg_b (by omega))
  have c_713 : F_X10_begin 1 4 (wrap (1 + (jrem x 5))) 0 σ = some (.inr 1, σ) := by
    rw [wrap_s (by omega) (by omega)]
    exact beg_c (by omega)
  have c_727 : F_X10_guard (if (if (jrem x 2) = 0 then 1 else 0 : Int) = 0 then wrap ((ν 0 2) + x) else wrap ((-1) - x) : Int) 0 0 0 σ = some (.inr 0, σ) := by
    rcases lo_c (x := x) (p := wrap ((ν 0 2) + x)) (q := wrap ((-1) - x)) with e | e <;> (rw [e, wrap_id (by omega) (by omega)]; exact gua_a h (by omega))
  have c_739 : F_X10_split (if (if (jrem x 2) = 0 then 1 else 0 : Int) = 0 then wrap ((ν 0 2) + x) else wrap ((-1) - x) : Int) 0 σ = some (.inr 0, σ) := by
    rcases lo_c (x := x) (p := wrap ((ν 0 2) + x)) (q := wrap ((-1) - x)) with e | e <;> (rw [e, wrap_id (by omega) (by omega)]; exact spl_a h (by omega))
  have c_751 : F_X10_merge (if (if (jrem x 2) = 0 then 1 else 0 : Int) = 0 then wrap ((ν 0 2) + x) else wrap ((-1) - x) : Int) 0 σ = some (.inr 0, σ) := by
    rcases lo_c (x := x) (p := wrap ((ν 0 2) + x)) (q := wrap ((-1) - x)) with e | e <;> (rw [e, wrap_id (by omega) (by omega)]; exact mer_a h (by omega))
  have c_772 : ¬ (ν 0 2) = 0 → F_X10_merge (wrap ((ν 0 2) - 1)) 0 σ = some (.inr 0, σ) := by
    intro hc
    rw [wrap_s (by omega) (by omega)]
    exact mer_a h (by omega)
  have c_802 : ¬ (ν 0 2) = 0 → F_X10_guard (jrem x (ν 0 2)) (if (if (jrem x 2) = 0 then 1 else 0 : Int) = 0 then wrap (4 + x) else wrap ((-2) - x) : Int) 0 0 σ = some (.inr 0, σ) := by
    intro hc
    rcases lo_c (x := x) (p := wrap (4 + x)) (q := wrap ((-2) - x)) with e | e <;> (rw [e, wrap_id (by omega) (by omega)]; exact gua_b h (hn hc) (by omega))
  have c_832 : ¬ (ν 0 2) = 0 → F_X10_guard (jrem x (ν 0 2)) 0 (if (if (jrem x 2) = 0 then 1 else 0 : Int) = 0 then wrap (6 + x) else wrap ((-1) - x) : Int) 0 σ = some (.inr 0, σ) := by
    intro hc
    rcases lo_c (x := x) (p := wrap (6 + x)) (q := wrap ((-1) - x)) with e | e <;> (rw [e, wrap_id (by omega) (by omega)]; exact gua_c h (hn hc) (by omega))
  have c_862 : ¬ (ν 0 2) = 0 → F_X10_guard (jrem x (ν 0 2)) (-1) 0 (if (if (jrem x 2) = 0 then 1 else 0 : Int) = 0 then wrap (10 + x) else wrap ((-1) - x) : Int) σ = some (.inr 1, σ) := by
    intro hc
    rcases lo_c (x := x) (p := wrap (10 + x)) (q := wrap ((-1) - x)) with e | e <;> (rw [e, wrap_id (by omega) (by omega)]; exact gua_d h (hn hc) (by omega))
  have c_891 : ¬ (ν 0 2) = 0 → F_X10_split (jrem x (ν 0 2)) (if (if (jrem x 2) = 0 then 1 else 0 : Int) = 0 then wrap ((ν 0 3) + x) else wrap ((-1) - x) : Int) σ = some (.inr 0, σ) := by
    intro hc
    rcases lo_c (x := x) (p := wrap ((ν 0 3) + x)) (q := wrap ((-1) - x)) with e | e <;> (rw [e, wrap_id (by omega) (by omega)]; exact spl_b h (by omega))
  have c_916 : F_X10_run (if (if (jrem x 2) = 0 then 1 else 0 : Int) = 0 then wrap (4 + x) else wrap ((-1) - x) : Int) (-1) (-1) (-1) σ = some (.inr 0, σ) := by
    rcases lo_c (x := x) (p := wrap (4 + x)) (q := wrap ((-1) - x)) with e | e <;> (rw [e, wrap_id (by omega) (by omega)]; exact run_off (by omega))
  have c_941 : F_X10_viewAt (if (if (jrem x 2) = 0 then 1 else 0 : Int) = 0 then wrap ((F_X10_views σ) + x) else wrap ((-1) - x) : Int) σ = some (.inr 0, σ) := by
    have hw : F_X10_views σ = τ 0 48 := h.1.2.2.2.2.2.2.1
    have hw2 : σ 27 4 = τ 0 48 := h.1.2.2.2.2.2.2.1
    have hw3 := h.1.2.2.2.2.2.2.2.1
    rw [hw]
    rcases lo_c (x := x) (p := wrap (τ 0 48 + x)) (q := wrap ((-1) - x)) with e | e
    · rw [e, wrap_id (by omega) (by omega)]; exact vie_a (by rw [hw2, wrap_s (by omega) (by omega)]; omega)
    · rw [e, wrap_id (by omega) (by omega)]; exact vie_a (by omega)
  have c_964 : F_X10_bound (if (if (jrem x 2) = 0 then 1 else 0 : Int) = 0 then wrap (6 + x) else wrap ((-1) - x) : Int) σ = some (.inr 0, σ) := by
    rcases lo_c (x := x) (p := wrap (6 + x)) (q := wrap ((-1) - x)) with e | e <;> (rw [e, wrap_id (by omega) (by omega)]; exact bou_a (by omega))
  have c_975 : F_X10_taken (if (if (jrem x 2) = 0 then 1 else 0 : Int) = 0 then wrap ((ν 0 2) + x) else wrap ((-1) - x) : Int) σ = some (.inr 0, σ) := by
    rcases lo_c (x := x) (p := wrap ((ν 0 2) + x)) (q := wrap ((-1) - x)) with e | e <;> (rw [e, wrap_id (by omega) (by omega)]; exact tak_a h (by omega))
  have c_986 : F_X10_isUsed (if (if (jrem x 2) = 0 then 1 else 0 : Int) = 0 then wrap ((ν 0 2) + x) else wrap ((-1) - x) : Int) σ = some (.inr 0, σ) := by
    rcases lo_c (x := x) (p := wrap ((ν 0 2) + x)) (q := wrap ((-1) - x)) with e | e <;> (rw [e, wrap_id (by omega) (by omega)]; exact use_a h (by omega))
  have c_1009 : F_X10_size (if (if (jrem x 2) = 0 then 1 else 0 : Int) = 0 then wrap (4 + x) else wrap (1 - x) : Int) true σ = some (.inr 0, σ) := by
    rcases lo_c (x := x) (p := wrap (4 + x)) (q := wrap (1 - x)) with e | e <;> (rw [e, wrap_id (by omega) (by omega)]; exact siz_a (by omega))
  have c_1162 : ¬ (ν 0 3) = 0 → F_X10_add (if (if (jrem x 2) = 0 then 1 else 0 : Int) = 0 then wrap ((ν 0 1) + x) else wrap ((-2) - x) : Int) (if (ν 0 3) ≤ 1 then (-1) else 0 : Int) (if (ν 0 3) ≤ 2 then (-1) else 0 : Int) 0 σ = some (.inr 0, σ) := by
    intro hc
    rcases lo_c (x := x) (p := wrap (ν 0 1 + x)) (q := wrap ((-2) - x)) with e | e <;> (rw [e, wrap_id (by omega) (by omega)]; exact add_a h (fun q => by have := q.1; have := q.2; omega) (by omega))
  have c_1180 : ¬ (ν 0 3) = 0 → F_X10_run (jrem x 4) (if (if (jrem x 2) = 0 then 1 else 0 : Int) = 0 then wrap ((ν 0 0) + x) else wrap ((-2) - x) : Int) (if (ν 0 3) ≤ 1 then (-1) else 0 : Int) (if (ν 0 3) ≤ 2 then (-1) else 0 : Int) σ = some (.inr 0, σ) := by
    intro hc
    rcases lo_c (x := x) (p := wrap (ν 0 0 + x)) (q := wrap ((-2) - x)) with e | e <;> (rw [e, wrap_id (by omega) (by omega)]; exact run_no h r4 (fun q => by have q2 := q 0 (by omega) (by omega); rw [show ∀ a b c : Int, F_X10_pick 0 a b c = a from fun _ _ _ => rfl] at q2; have := q2.1; have := q2.2; omega))
  have c_1228 : ¬ (ν 0 3) = 0 → ¬ 2 < (ν 0 3) → ¬ (ν 0 1) = 0 → F_X10_add 0 (if (ν 0 3) ≤ 1 then x else 0 : Int) (if (ν 0 3) ≤ 2 then x else 0 : Int) 0 σ = some (.inr 1, σ) := by
    intro hc hc2 hc3
    refine add_b h (fun i i1 i2 => ?_) ?_ (by omega)
    · rcases (show i = 0 ∨ i = 1 by omega) with rfl | rfl
      · exact ⟨Int.le_refl _, by show (0 : Int) < _; omega⟩
      · show pl τ (if (ν 0 3) ≤ 1 then x else 0 : Int)
        rw [if_neg (by omega)]
        exact ⟨Int.le_refl _, by omega⟩
    · by_cases g : ν 0 3 ≤ 1
      · refine ⟨1, Or.inl rfl, by omega, ?_⟩
        show ¬ (if (ν 0 3) ≤ 1 then x else 0 : Int) = -1
        rw [if_pos g]; omega
      · refine ⟨2, Or.inr rfl, by omega, ?_⟩
        show ¬ (if (ν 0 3) ≤ 2 then x else 0 : Int) = -1
        rw [if_pos (by omega)]; omega
  have c_1043 : (ν 0 3) = 0 → F_X10_add (-1) (-1) (-1) (jrem x 100) σ = some (.inr 2, σ) := by
    intro hc
    exact add_c h (by have := jrx hx.1 100 (by decide); omega) (by omega)
  have c_1058 : (ν 0 3) = 0 → F_X10_run (jrem x 4) (-1) (-1) (-1) σ = some (.inr 2, σ) := by
    intro hc
    exact run_nil h r4 (fun i i1 i2 => by omega) (fun i i1 i2 => ⟨fun _ => by unfold F_X10_pick; split <;> (try split) <;> rfl, fun q => by omega⟩) (by omega)
  have c_1073 : (ν 0 3) = 0 → F_X10_run (jrem x 4) x (-1) (-1) σ = some (.inr 1, σ) := by
    intro hc
    exact run_ill h r4 (fun i i1 i2 => by omega) (fun q => by have q2 : x = -1 := (q 0 (by omega) (by omega)).1 (by omega); omega)
  have c_1088 : (ν 0 3) = 0 → F_X10_size (wrap (2 + (jrem x 2))) true σ = some (.inr 2, σ) := by
    intro hc
    rw [wrap_s (by omega) (by omega)]
    exact siz_b h (by omega) (by omega)
  have c_1097 : (ν 0 3) = 0 → F_X10_missing  σ = some (.inr 2, σ) := by
    intro hc
    exact mis_a h (by omega)
  have c_1107 : (ν 0 3) = 0 → F_X10_example x σ = some (.inr 2, σ) := by
    intro hc
    exact exa_a h (by omega)
  exact lc_refuses l hl d hd ax an a0 hax x σ ν c_99 c_127 c_156 c_176 c_199 c_224 c_239 c_265 c_293 c_317 c_332 c_345 c_358 c_373 c_391 c_403 c_426 c_440 c_465 c_479 c_504 c_520 c_558 c_588 c_618 c_646 c_670 c_696 c_713 c_727 c_739 c_751 c_772 c_802 c_832 c_862 c_891 c_916 c_941 c_964 c_975 c_986 c_1009 c_1162 c_1180 c_1228 c_1043 c_1058 c_1073 c_1088 c_1097 c_1107
