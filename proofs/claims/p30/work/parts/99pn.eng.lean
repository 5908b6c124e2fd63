/-! what is refused -/
section KL
variable {σ τ : Sg}
theorem xb_l {V γ : Type} {v : V} {s : Sg} {t : Nat → Sg → Option γ} {f : V → Sg → Option γ} : xb (some (.inl v, s)) t f = f v s := rfl
theorem typ_iff {a : Int} : F_X2_isType a = true ↔ 0 ≤ a ∧ a ≤ 3 := isIn_iff
theorem dig_iff {a : Int} : F_X10_isDigit a = true ↔ 0 ≤ a ∧ a ≤ 9 := isIn_iff
theorem nam_iff {a : Int} : F_X10_isName a = true ↔ 0 ≤ a ∧ a ≤ 5 := isIn_iff
theorem vie_iff {a : Int} : F_X10_isView a = true ↔ 0 ≤ a ∧ a ≤ 2 := isIn_iff
theorem con_a {a b c d e : Int} (h : ¬ (0 ≤ a ∧ a ≤ 3)) : F_X10_constructor a b c d e σ = some (.inr 0, σ) := by
  unfold F_X10_constructor
  rw [if_neg (fun q => h (typ_iff.mp q))]
theorem con_b {a b c d e : Int} (h0 : 0 ≤ a ∧ a ≤ 3) (h : ¬ (0 ≤ b ∧ b ≤ 3)) : F_X10_constructor a b c d e σ = some (.inr 1, σ) := by
  unfold F_X10_constructor
  rw [if_pos (show F_X2_isType a = true from isIn_iff.mpr h0), if_neg (fun q => h (isIn_iff.mp q))]
theorem con_s0 {b c d e i : Int} (h3 : ¬ 3 ≤ i) (hb : ¬ b ≤ i) (h : ¬ (0 ≤ F_X10_pick i c d e ∧ F_X10_pick i c d e ≤ 5)) : L_X10_constructor_19 b c d e σ i = some (.inr (.inr (.inr 1, σ))) := by
  unfold L_X10_constructor_19
  rw [if_neg h3, bnd_eq, if_neg hb]
  have : F_X2_isKind (F_X10_pick i c d e) = false := by
    cases hk : F_X2_isKind (F_X10_pick i c d e) with
    | false => rfl
    | true => exact absurd (isKind_iff.mp hk) h
  unfold B_X10_constructor_61
  rw [this, if_neg (by decide)]
theorem con_s1 {b c d e i : Int} (h3 : ¬ 3 ≤ i) (hb : ¬ b ≤ i) (h : 0 ≤ F_X10_pick i c d e ∧ F_X10_pick i c d e ≤ 5) : L_X10_constructor_19 b c d e σ i = some (.inl (wrap (i + 1))) := by
  unfold L_X10_constructor_19
  rw [if_neg h3, bnd_eq, if_neg hb]
  unfold B_X10_constructor_61
  rw [isKind_iff.mpr h, if_pos rfl]
theorem con_s2 {b c d e i : Int} (h3 : ¬ 3 ≤ i) (hb : b ≤ i) (h : ¬ F_X10_pick i c d e = 0) : L_X10_constructor_19 b c d e σ i = some (.inr (.inr (.inr 1, σ))) := by
  unfold L_X10_constructor_19
  rw [if_neg h3, bnd_eq, if_pos hb, if_neg h]
  unfold B_X10_constructor_61
  rw [if_neg (by decide)]
theorem con_c {a c d e : Int} (h0 : 0 ≤ a ∧ a ≤ 3) (h : ¬ (0 ≤ c ∧ c ≤ 5)) : F_X10_constructor a 1 c d e σ = some (.inr 1, σ) := by
  unfold F_X10_constructor
  rw [if_pos (show F_X2_isType a = true from isIn_iff.mpr h0), if_pos (isIn_iff.mpr (by omega)), iter_r (con_s0 (σ := σ) (b := 1) (c := c) (d := d) (e := e) (i := 0) (by omega) (by omega) h)]
  rfl
theorem con_d {a d e : Int} (h0 : 0 ≤ a ∧ a ≤ 3) (h : ¬ d = 0) : F_X10_constructor a 1 4 d e σ = some (.inr 1, σ) := by
  unfold F_X10_constructor
  rw [if_pos (show F_X2_isType a = true from isIn_iff.mpr h0), if_pos (isIn_iff.mpr (by omega)), iter_l (con_s1 (σ := σ) (b := 1) (c := 4) (d := d) (e := e) (i := 0) (by omega) (by omega) (show 0 ≤ (4 : Int) ∧ (4 : Int) ≤ 5 by omega)), iter_r (con_s2 (σ := σ) (b := 1) (c := 4) (d := d) (e := e) (i := wrap (0 + 1)) (by decide) (by decide) (show ¬ F_X10_pick (wrap (0 + 1)) 4 d e = 0 from h))]
  rfl
theorem num_a {a : Int} (h : ¬ (0 ≤ a ∧ a ≤ 9)) : F_X10_num a σ = some (.inr 1, σ) := by
  unfold F_X10_num
  rw [if_neg (fun q => h (dig_iff.mp q))]
theorem seq_a {a b c d : Int} (h : ¬ (0 ≤ a ∧ a ≤ 3)) : F_X10_seq a b c d σ = some (.inr 1, σ) := by
  unfold F_X10_seq
  rw [if_neg (fun q => h (isIn_iff.mp q))]
theorem seq_b {c d : Int} (h : ¬ c = 0) : F_X10_seq 1 3 c d σ = some (.inr 1, σ) := by
  have s0 : L_X10_seq_12 1 3 c d σ 0 = some (.inl (wrap (0 + 1))) := by
    unfold L_X10_seq_12
    rw [if_neg (by omega), bnd_eq, if_neg (by omega)]
    unfold B_X10_seq_53
    rw [show F_X10_isDigit (F_X10_pick 0 3 c d) = true from isIn_iff.mpr (show (0 : Int) ≤ 3 ∧ (3 : Int) ≤ 9 by omega), if_pos rfl]
  have s1 : L_X10_seq_12 1 3 c d σ (wrap (0 + 1)) = some (.inr (.inr (.inr 1, σ))) := by
    unfold L_X10_seq_12
    rw [if_neg (by decide), bnd_eq, if_pos (by decide), if_neg (show ¬ F_X10_pick (wrap (0 + 1)) 3 c d = 0 from h)]
    unfold B_X10_seq_53
    rw [if_neg (by decide)]
  unfold F_X10_seq
  rw [if_pos (isIn_iff.mpr (by omega)), iter_l s0, iter_r s1]
  rfl
theorem data_a {a b c d e : Int} (hr : RelW σ τ) (h : ¬ isC τ a b) : F_X10_data a b c d e σ = some (.inr 0, σ) := by
  unfold F_X10_data
  rw [if_neg (fun q => h ((has_iff hr.1.1).mp q))]
theorem make_a {a b c d e : Int} (hr : RelW σ τ) (h : ¬ isC τ a b) : F_X10_make a b c d e σ = some (.inr 0, σ) := by
  unfold F_X10_make
  rw [if_neg (fun q => h ((has_iff hr.1.1).mp q))]
theorem name_a {a b : Int} (h : ¬ (0 ≤ a ∧ a ≤ 5)) : F_X10_name a b σ = some (.inr 0, σ) := by
  unfold F_X10_name
  rw [if_neg (fun q => h (nam_iff.mp q))]
  unfold B_X10_name_22 B_X10_name_23
  rw [if_neg (by decide)]
theorem name_b {a b : Int} (hr : RelW σ τ) (h : ¬ pl τ b) : F_X10_name a b σ = some (.inr 0, σ) := by
  unfold F_X10_name
  rw [if_neg (fun q => h ((isThere5 hr.1.2.2.1).mp q))]
  unfold B_X10_name_22 B_X10_name_23
  rw [if_neg (show ¬ false = true by decide), ite_self]
theorem range_a {a b : Int} (h : ¬ (0 ≤ a ∧ a ≤ 9)) : F_X10_range a b σ = some (.inr 1, σ) := by
  unfold F_X10_range
  rw [if_neg (fun q => h (dig_iff.mp q))]
  unfold B_X10_range_21 B_X10_range_22
  rw [if_neg (by decide)]
theorem range_b {a b : Int} (h : ¬ (a ≤ b ∧ b ≤ 9)) : F_X10_range a b σ = some (.inr 1, σ) := by
  unfold F_X10_range
  rw [if_neg (fun q => h (isIn_iff.mp q))]
  unfold B_X10_range_21 B_X10_range_22
  rw [if_neg (show ¬ false = true by decide), ite_self]
theorem either_a {a b : Int} (hr : RelW σ τ) (h : ¬ pl τ a) : F_X10_either a b σ = some (.inr 0, σ) := by
  unfold F_X10_either
  rw [demP_no hr.1.2.2.1 (by omega) (fun q => h (q 0 (by omega) (by omega)))]
  rfl
theorem view_a {a b : Int} (h : ¬ (0 ≤ a ∧ a ≤ 2)) : F_X10_view a b σ = some (.inr 0, σ) := by
  unfold F_X10_view
  rw [if_neg (fun q => h (vie_iff.mp q))]
  unfold B_X10_view_22 B_X10_view_23
  rw [if_neg (by decide)]
theorem view_b {a b : Int} (hr : RelW σ τ) (h : ¬ pl τ b) : F_X10_view a b σ = some (.inr 0, σ) := by
  unfold F_X10_view
  rw [if_neg (fun q => h ((isThere5 hr.1.2.2.1).mp q))]
  unfold B_X10_view_22 B_X10_view_23
  rw [if_neg (show ¬ false = true by decide), ite_self]
theorem list_a {a b c d : Int} (hr : RelW σ τ) (h : ¬ (0 ≤ a ∧ a ≤ 2)) (hd : 0 ≤ d ∧ d ≤ 2) : F_X10_list a b c d σ = some (.inr 1, σ) := by
  have hb : F_X10_isIn a 0 2 = false := by
    cases hk : F_X10_isIn a 0 2 with
    | false => rfl
    | true => exact absurd (isIn_iff.mp hk) h
  unfold F_X10_list
  rw [bnd_eq, hb, if_neg (by decide)]
  unfold B_X10_list_19
  rw [demP_ok hr.1.2.2.1 (by omega) (fun i h1 h2 => by omega)]
  show (if F_X10_isIn d 0 2 = true then _ else _) = _
  rw [if_pos (isIn_iff.mpr hd), if_neg (by decide)]
theorem list_in {a b c d : Int} (h : 0 ≤ a ∧ a ≤ 2) : F_X10_list a b c d σ = B_X10_list_19 a b c d true a σ := by
  unfold F_X10_list
  rw [bnd_eq, isIn_iff.mpr h, if_pos rfl]
theorem list_b {b c d : Int} (hr : RelW σ τ) (h : ¬ pl τ b) : F_X10_list 1 b c d σ = some (.inr 0, σ) := by
  rw [list_in (by omega)]
  unfold B_X10_list_19
  rw [demP_no hr.1.2.2.1 (by omega) (fun q => h (q 0 (by omega) (by omega)))]
  rfl
theorem list_c {b c d : Int} (hr : RelW σ τ) (h : ¬ (0 ≤ d ∧ d ≤ 2)) : F_X10_list 0 b c d σ = some (.inr 0, σ) := by
  rw [list_in (by omega)]
  unfold B_X10_list_19
  rw [demP_ok hr.1.2.2.1 (by omega) (fun i h1 h2 => by omega)]
  show (if F_X10_isIn d 0 2 = true then _ else _) = _
  rw [if_neg (fun q => h (isIn_iff.mp q))]
theorem list_d {b c : Int} (hr : RelW σ τ) (h : ¬ b = -1) : F_X10_list 0 b c 0 σ = some (.inr 1, σ) := by
  have s0 : L_X10_list_43 0 b c σ 0 = some (.inr (.inr (.inr 1, σ))) := by
    unfold L_X10_list_43
    rw [if_neg (by omega), bnd_eq, if_pos (by omega), if_neg (show ¬ F_X10_pick 0 b c (-1) = -1 from h)]
    unfold B_X10_list_89
    rw [if_neg (by decide)]
  rw [list_in (by omega)]
  unfold B_X10_list_19
  rw [demP_ok hr.1.2.2.1 (by omega) (fun i h1 h2 => by omega)]
  rw [xb_l, if_pos (isIn_iff.mpr (by omega)), if_pos rfl, iter_r s0]
  rfl
theorem set_a {a b c d e : Int} (h : ¬ (0 ≤ a ∧ a ≤ 2)) : F_X10_setView a b c d e σ = some (.inr 0, σ) := by
  unfold F_X10_setView
  rw [if_neg (fun q => h (vie_iff.mp q))]
theorem set_f {a b c d e : Int} {y : Bool} (h : y = false ∨ ¬ (1 ≤ e ∧ e ≤ 10)) : B_X10_setView_46 a b c d e y σ = some (.inr 1, σ) := by
  unfold B_X10_setView_46
  rcases h with rfl | h
  · rw [if_neg (by decide)]
  · rw [if_neg (fun q => h (isIn_iff.mp q)), ite_self]
theorem set_b {a b c d e : Int} (h0 : 0 ≤ a ∧ a ≤ 2) (h : ¬ (-9 ≤ b ∧ b ≤ 9) ∨ ¬ (-9 ≤ c ∧ c ≤ 9) ∨ ¬ (1 ≤ e ∧ e ≤ 10)) : F_X10_setView a b c d e σ = some (.inr 1, σ) := by
  unfold F_X10_setView B_X10_setView_45
  rw [if_pos (show F_X10_isView a = true from isIn_iff.mpr h0)]
  rcases h with h | h | h
  · rw [if_neg (fun q => h (isIn_iff.mp q)), set_f (Or.inl rfl)]
  · rw [if_neg (c := F_X10_isIn c (-9) 9 = true) (fun q => h (isIn_iff.mp q)), set_f (Or.inl rfl), ite_self]
  · rw [set_f (Or.inr h), set_f (Or.inr h), ite_self, ite_self, ite_self]
theorem beg_a {a b c d : Int} (h : ¬ (1 ≤ a ∧ a ≤ 3)) : F_X10_begin a b c d σ = some (.inr 1, σ) := by
  unfold F_X10_begin
  rw [if_neg (fun q => h (isIn_iff.mp q))]
theorem beg_b {b c d : Int} (h : ¬ (0 ≤ b ∧ b ≤ 5)) : F_X10_begin 1 b c d σ = some (.inr 1, σ) := by
  have s0 : L_X10_begin_12 1 b c d σ 0 = some (.inr (.inr (.inr 1, σ))) := by
    unfold L_X10_begin_12
    have : F_X2_isKind (F_X10_pick 0 b c d) = false := by
      cases hk : F_X2_isKind (F_X10_pick 0 b c d) with
      | false => rfl
      | true => exact absurd (isKind_iff.mp hk) h
    rw [if_neg (by omega), bnd_eq, if_neg (by omega), this]
    unfold B_X10_begin_53
    rw [if_neg (by decide)]
  unfold F_X10_begin
  rw [if_pos (isIn_iff.mpr (by omega)), iter_r s0]
  rfl
theorem beg_c {c d : Int} (h : ¬ c = 0) : F_X10_begin 1 4 c d σ = some (.inr 1, σ) := by
  have s0 : L_X10_begin_12 1 4 c d σ 0 = some (.inl (wrap (0 + 1))) := by
    unfold L_X10_begin_12
    rw [if_neg (by omega), bnd_eq, if_neg (by omega), isKind_iff.mpr (show (0 : Int) ≤ F_X10_pick 0 4 c d ∧ F_X10_pick 0 4 c d ≤ 5 from (show (0 : Int) ≤ 4 ∧ (4 : Int) ≤ 5 by omega))]
    unfold B_X10_begin_53
    rw [if_pos rfl]
  have s1 : L_X10_begin_12 1 4 c d σ (wrap (0 + 1)) = some (.inr (.inr (.inr 1, σ))) := by
    unfold L_X10_begin_12
    rw [if_neg (by decide), bnd_eq, if_pos (by decide), if_neg (show ¬ F_X10_pick (wrap (0 + 1)) 4 c d = 0 from h)]
    unfold B_X10_begin_53
    rw [if_neg (by decide)]
  unfold F_X10_begin
  rw [if_pos (isIn_iff.mpr (by omega)), iter_l s0, iter_r s1]
  rfl
theorem gua_a {a b c d : Int} (hr : RelW σ τ) (h : ¬ (0 ≤ a ∧ a < τ 0 23)) : F_X10_guard a b c d σ = some (.inr 0, σ) := by
  unfold F_X10_guard
  rw [if_neg (fun q => h ((has4 hr.1.2.2.2.2.1).mp q))]
theorem gua_b {a b c d : Int} (hr : RelW σ τ) (h0 : 0 ≤ a ∧ a < τ 0 23) (h : ¬ (-1 ≤ b ∧ b ≤ 3)) : F_X10_guard a b c d σ = some (.inr 0, σ) := by
  unfold F_X10_guard
  rw [if_pos ((has4 hr.1.2.2.2.2.1).mpr h0), if_neg (show ¬ b = -1 by omega), if_neg (fun q => h (by have := isIn_iff.mp q; omega))]
  unfold B_X10_guard_30
  rw [if_neg (by decide)]
theorem gua_c {a c d : Int} (hr : RelW σ τ) (h0 : 0 ≤ a ∧ a < τ 0 23) (h : ¬ (0 ≤ c ∧ c ≤ 5)) : F_X10_guard a 0 c d σ = some (.inr 0, σ) := by
  unfold F_X10_guard
  rw [if_pos ((has4 hr.1.2.2.2.2.1).mpr h0), if_neg (show ¬ (0 : Int) = -1 by omega), if_pos (isIn_iff.mpr (by omega))]
  unfold B_X10_guard_25 B_X10_guard_30
  rw [if_pos rfl, if_neg (fun q => h (nam_iff.mp q))]
theorem gua_d {a d : Int} (hr : RelW σ τ) (h0 : 0 ≤ a ∧ a < τ 0 23) (h : ¬ (0 ≤ d ∧ d ≤ 9)) : F_X10_guard a (-1) 0 d σ = some (.inr 1, σ) := by
  unfold F_X10_guard
  rw [if_pos ((has4 hr.1.2.2.2.2.1).mpr h0), if_pos rfl]
  unfold B_X10_guard_25 B_X10_guard_30
  rw [if_pos rfl, if_pos (show F_X10_isName 0 = true from isIn_iff.mpr (by omega)), if_pos rfl, if_pos rfl]
  unfold B_X10_guard_63
  rw [if_pos rfl, if_neg (fun q => h (dig_iff.mp q))]
theorem spl_a {a b : Int} (hr : RelW σ τ) (h : ¬ (0 ≤ a ∧ a < τ 0 23)) : F_X10_split a b σ = some (.inr 0, σ) := by
  unfold F_X10_split
  rw [if_neg (fun q => h ((has4 hr.1.2.2.2.2.1).mp q))]
  unfold B_X10_split_26 B_X10_split_27
  rw [if_neg (by decide)]
theorem spl_b {a b : Int} (hr : RelW σ τ) (h : ¬ (0 ≤ b ∧ b < τ 0 21)) : F_X10_split a b σ = some (.inr 0, σ) := by
  unfold F_X10_split
  rw [if_neg (fun q => h ((hasCol4 hr.1.2.2.2.2.1).mp q))]
  unfold B_X10_split_26 B_X10_split_27
  rw [if_neg (show ¬ false = true by decide), ite_self]
theorem mer_f {a b : Int} : B_X10_merge_39 a b σ = some (.inr 0, σ) := by
  unfold B_X10_merge_39 B_X10_merge_40
  rw [if_neg (by decide)]
theorem mer_a {a b : Int} (hr : RelW σ τ) (h : ¬ (0 ≤ a ∧ a + 1 < τ 0 23)) : F_X10_merge a b σ = some (.inr 0, σ) := by
  have hb := rel_b hr
  unfold F_X10_merge F_X4_count
  rw [mer_f]
  by_cases c : 0 ≤ a ∧ a < τ 0 23
  · rw [hr.1.2.2.2.2.1.2.1, if_pos ((has4 hr.1.2.2.2.2.1).mpr c), wrap_s (by omega) (by omega), if_pos (by omega)]
  · rw [if_neg (fun q => c ((has4 hr.1.2.2.2.2.1).mp q))]
theorem run_off {e a b c : Int} (h : ¬ (0 ≤ e ∧ e ≤ 3)) : F_X10_run e a b c σ = some (.inr 0, σ) := by
  unfold F_X10_run
  rw [bnd_eq, if_neg (fun q => h (isIn_iff.mp q))]
theorem vie_a {a : Int} (h : ¬ (0 ≤ a ∧ a ≤ wrap (σ 27 4 - 1))) : F_X10_viewAt a σ = some (.inr 0, σ) := by
  unfold F_X10_viewAt F_X1_viewCount
  rw [if_neg (fun q => h (isIn_iff.mp q))]
theorem bou_a {a : Int} (h : ¬ (0 ≤ a ∧ a ≤ 5)) : F_X10_bound a σ = some (.inr 0, σ) := by
  unfold F_X10_bound
  rw [if_neg (fun q => h (nam_iff.mp q))]
theorem tak_a {a : Int} (hr : RelW σ τ) (h : ¬ (0 ≤ a ∧ a < τ 0 23)) : F_X10_taken a σ = some (.inr 0, σ) := by
  unfold F_X10_taken
  rw [if_neg (fun q => h ((has4 hr.1.2.2.2.2.1).mp q))]
theorem use_a {a : Int} (hr : RelW σ τ) (h : ¬ (0 ≤ a ∧ a < τ 0 23)) : F_X10_isUsed a σ = some (.inr 0, σ) := by
  unfold F_X10_isUsed
  rw [if_neg (fun q => h ((has4 hr.1.2.2.2.2.1).mp q))]
theorem siz_a {a : Int} {b : Bool} (h : ¬ (2 ≤ a ∧ a ≤ 3)) : F_X10_size a b σ = some (.inr 0, σ) := by
  unfold F_X10_size
  rw [if_neg (fun q => h (isIn_iff.mp q))]
theorem siz_b {a : Int} {b : Bool} (hr : RelW σ τ) (h0 : 2 ≤ a ∧ a ≤ 3) (h : τ 0 21 ≤ 0) : F_X10_size a b σ = some (.inr 2, σ) := by
  unfold F_X10_size
  rw [if_pos (isIn_iff.mpr h0), if_neg (fun q => (isThere4 hr.1.2.2.2.2.1).mp q h)]
theorem mis_a (hr : RelW σ τ) (h : τ 0 21 ≤ 0) : F_X10_missing σ = some (.inr 2, σ) := by
  unfold F_X10_missing
  rw [if_neg (fun q => (isThere4 hr.1.2.2.2.2.1).mp q h)]
theorem exa_a {a : Int} (hr : RelW σ τ) (h : τ 0 21 ≤ 0) : F_X10_example a σ = some (.inr 2, σ) := by
  unfold F_X10_example
  rw [if_neg (fun q => (isThere4 hr.1.2.2.2.2.1).mp q h)]
theorem add_a {a b c d : Int} (hr : RelW σ τ) (h : ¬ pl τ a) (h1 : 0 < τ 0 21) : F_X10_add a b c d σ = some (.inr 0, σ) := by
  have hb := rel_b hr
  unfold F_X10_add F_X4_columns
  rw [bnd_eq, hr.1.2.2.2.2.1.1, demP_no hr.1.2.2.1 (by omega) (fun q => h (q 0 (by omega) h1))]
  rfl
theorem add_s {a b c k i : Int} (h3 : ¬ 3 ≤ i) (hk : k ≤ i) : L_X10_add_21 a b c k σ i = if F_X10_pick i a b c = -1 then some (.inl (wrap (i + 1))) else some (.inr (.inr (.inr 1, σ))) := by
  unfold L_X10_add_21
  rw [if_neg h3, bnd_eq, if_pos hk]
  unfold B_X10_add_76
  rw [if_pos rfl, if_neg (show ¬ false = true by decide)]
theorem add_t {a b c k i : Int} (h3 : ¬ 3 ≤ i) (hk : ¬ k ≤ i) : L_X10_add_21 a b c k σ i = some (.inl (wrap (i + 1))) ∨ L_X10_add_21 a b c k σ i = some (.inr (.inr (.inr 1, σ))) := by
  unfold L_X10_add_21
  rw [if_neg h3, bnd_eq, if_neg hk]
  unfold B_X10_add_76
  split
  · exact Or.inl rfl
  · exact Or.inr rfl
theorem add_b {a b c d : Int} (hr : RelW σ τ) (hd : ∀ i, 0 ≤ i → i < τ 0 21 → pl τ (F_X10_pick i a b c)) (h : ∃ i, (i = 1 ∨ i = 2) ∧ τ 0 21 ≤ i ∧ ¬ F_X10_pick i a b c = -1) (h0 : 0 < τ 0 21) : F_X10_add a b c d σ = some (.inr 1, σ) := by
  have hb := rel_b hr
  have e1 : wrap (0 + 1) = 1 := by decide
  have e2 : wrap (1 + 1) = 2 := by decide
  have hit : iter (fun z : Int => L_X10_add_21 a b c (τ 0 21) σ z) 4 0 = some (.inr (.inr 1, σ)) := by
    rcases add_t (σ := σ) (a := a) (b := b) (c := c) (show ¬ (3 : Int) ≤ 0 by omega) (show ¬ τ 0 21 ≤ 0 by omega) with s | s
    · rw [iter_l s, e1]
      by_cases g : τ 0 21 ≤ 1
      · have s1 := add_s (σ := σ) (a := a) (b := b) (c := c) (show ¬ (3 : Int) ≤ 1 by omega) g
        by_cases p1 : F_X10_pick 1 a b c = -1
        · rw [if_pos p1] at s1
          rw [iter_l s1, e2]
          have s2 := add_s (σ := σ) (a := a) (b := b) (c := c) (show ¬ (3 : Int) ≤ 2 by omega) (show τ 0 21 ≤ 2 by omega)
          obtain ⟨i, hi, -, hp⟩ := h
          have hi2 : i = 2 := by
            rcases hi with rfl | rfl
            · exact absurd p1 hp
            · rfl
          rw [hi2] at hp
          rw [if_neg hp] at s2
          rw [iter_r s2]
        · rw [if_neg p1] at s1
          rw [iter_r s1]
      · rcases add_t (σ := σ) (a := a) (b := b) (c := c) (show ¬ (3 : Int) ≤ 1 by omega) g with s1 | s1
        · rw [iter_l s1, e2]
          obtain ⟨i, hi, hp0, hp⟩ := h
          have hi2 : i = 2 := by omega
          rw [hi2] at hp hp0
          have s2 := add_s (σ := σ) (a := a) (b := b) (c := c) (show ¬ (3 : Int) ≤ 2 by omega) hp0
          rw [if_neg hp] at s2
          rw [iter_r s2]
        · rw [iter_r s1]
    · rw [iter_r s]
  unfold F_X10_add F_X4_columns
  rw [bnd_eq, hr.1.2.2.2.2.1.1, demP_ok hr.1.2.2.1 (by omega) hd]
  show ((iter (fun a9 : Int => L_X10_add_21 a b c (τ 0 21) σ a9) 4 0).bind fun y8 => Sum.elim (fun z10 => _) (fun r11 => some r11) y8) = _
  rw [hit]
  rfl
theorem add_c {d : Int} (hr : RelW σ τ) (hd : 0 ≤ d ∧ d ≤ 99) (h0 : τ 0 21 = 0) : F_X10_add (-1) (-1) (-1) d σ = some (.inr 2, σ) := by
  have e1 : wrap (0 + 1) = 1 := by decide
  have e2 : wrap (1 + 1) = 2 := by decide
  have e3 : wrap (2 + 1) = 3 := by decide
  have st : ∀ i : Int, 0 ≤ i → i < 3 → L_X10_add_21 (-1) (-1) (-1) 0 σ i = some (.inl (wrap (i + 1))) := fun i h1 h2 => by
    rw [add_s (by omega) h1, if_pos (by unfold F_X10_pick; split <;> (try split) <;> rfl)]
  have s3 : L_X10_add_21 (-1) (-1) (-1) 0 σ 3 = some (.inr (.inl ())) := by
    unfold L_X10_add_21
    rw [if_pos (by omega)]
  have hit : iter (fun z : Int => L_X10_add_21 (-1) (-1) (-1) 0 σ z) 4 0 = some (.inl ()) := by
    rw [iter_l (st 0 (by omega) (by omega)), e1, iter_l (st 1 (by omega) (by omega)), e2, iter_l (st 2 (by omega) (by omega)), e3, iter_r s3]
  have hap : F_X5_bindApart (-1) (-1) (-1) σ = true := (bindApart5 hr.1.2.2.1 (Or.inl rfl) (Or.inl rfl) (Or.inl rfl)).mpr (by
    unfold apS nmo
    rw [if_pos (by omega)]
    exact ⟨by decide, by decide, by decide⟩)
  unfold F_X10_add F_X4_columns
  rw [bnd_eq, hr.1.2.2.2.2.1.1, h0, demP_ok hr.1.2.2.1 (by omega) (fun i h1 h2 => by omega)]
  show ((iter (fun a9 : Int => L_X10_add_21 (-1) (-1) (-1) 0 σ a9) 4 0).bind fun y8 => Sum.elim (fun z10 => _) (fun r11 => some r11) y8) = _
  rw [hit, Option.bind_some]
  show (if F_X5_bindApart (-1) (-1) (-1) σ = true then _ else _) = _
  rw [if_pos hap, if_pos (isIn_iff.mpr hd), if_neg (fun q => (isThere4 hr.1.2.2.2.2.1).mp q (by omega))]
  unfold B_X10_add_135 B_X10_add_136
  rw [if_neg (by decide)]
end KL
