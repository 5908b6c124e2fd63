/-! the words that the methods need, each found by its place in tables_1 -/
def TB : List Cond := lw_tbl.filter goodWord
theorem tb_mem {w : Cond} (h : w ∈ lw_tbl) (g : goodWord w = true) : w ∈ TB := by
  unfold TB; rw [List.mem_filter]; exact ⟨h, g⟩
theorem tb_at {w : Cond} (i : Nat) (h : tables_1[i]? = some w) (g : goodWord w = true) : w ∈ TB :=
  tb_mem (by unfold lw_tbl; exact List.mem_append_right _ (List.mem_of_getElem? h)) g
theorem tb_sel {q : MethodName × Nat} (i : Nat) (h : lw_privs[i]? = some q) (g : goodWord (Cond.selects q.1.cls q.1 q.1) = true) : Cond.selects q.1.cls q.1 q.1 ∈ TB :=
  tb_mem (by unfold lw_tbl k2_sels; exact List.mem_append_left _ (List.mem_map.mpr ⟨q, List.mem_of_getElem? h, rfl⟩)) g
def ownN (n : Nat) : String := match n with
  | 0 => "Patternforge$Automaton"
  | 1 => "Patternforge$Course"
  | 2 => "Patternforge$Kinds"
  | 3 => "Patternforge$Known"
  | 4 => "Patternforge$Match"
  | 5 => "Patternforge$Patterns"
  | 6 => "Patternforge$Plain"
  | 7 => "Patternforge$Tree"
  | 8 => "Patternforge$Values"
  | 9 => "Patternforge$Views"
  | 10 => "Patternforge"
  | 11 => "Patternforge"
  | 12 => "PatternforgeLaw"
  | 13 => "java/lang/Integer"
  | 14 => "java/lang/Math"
  | _ => "java/util/Arrays"
def tyC (n : Nat) : Nat → FieldType := match n with
  | 0 => tyX0
  | 1 => tyX1
  | 2 => tyX2
  | 3 => tyX3
  | 4 => tyX4
  | 5 => tyX5
  | 6 => tyX6
  | 7 => tyX7
  | 8 => tyX8
  | 9 => tyX9
  | 10 => tyX10
  | _ => tyX10
def ftc (ci k : Nat) : Nat := match tyC ci k with
  | .int => 0
  | .boolean => 1
  | .object _ => 2
  | .array _ => 2
  | _ => 3
def fN : List Nat := [9, 9, 3, 14, 4, 12, 3, 15, 5, 1, 10, 10]
def fFin (ci k : Nat) : Bool := match vwCl[ci]? with
  | some q => (q.2.1 k).2.2.2
  | none => true
theorem inC0 : ∀ w ∈ wsX00, w ∈ TB := by
  have h : ((List.range 9).zip [213, 215, 217, 219, 221, 223, 225, 227, 229]).all (fun q => decide (tables_1[q.2]? = some (u_lay RX0 TX0 q.1))) = true := by decide +kernel
  have hg : (u_ws RX0 TX0 9).all goodWord = true := by decide +kernel
  intro w hw
  refine tb_mem ?_ (List.all_eq_true.mp hg w hw)
  unfold lw_tbl
  refine List.mem_append_right _ ?_
  obtain ⟨k, hk, rfl⟩ := List.mem_map.mp hw
  have hk2 := List.mem_range.mp hk
  have hz : (k, ([213, 215, 217, 219, 221, 223, 225, 227, 229] : List Nat)[k]?.getD 0) ∈ (List.range 9).zip ([213, 215, 217, 219, 221, 223, 225, 227, 229] : List Nat) := by
    refine List.mem_of_getElem? (i := k) ?_
    rw [List.getElem?_zip_eq_some]
    refine ⟨List.getElem?_range hk2, ?_⟩
    have : k < ([213, 215, 217, 219, 221, 223, 225, 227, 229] : List Nat).length := hk2
    simp [List.getElem?_eq_getElem this]
  exact List.mem_of_getElem? (of_decide_eq_true (List.all_eq_true.mp h _ hz))
theorem inC1 : ∀ w ∈ wsX10, w ∈ TB := by
  have h : ((List.range 9).zip [163, 165, 167, 169, 171, 173, 175, 177, 179]).all (fun q => decide (tables_1[q.2]? = some (u_lay RX1 TX1 q.1))) = true := by decide +kernel
  have hg : (u_ws RX1 TX1 9).all goodWord = true := by decide +kernel
  intro w hw
  refine tb_mem ?_ (List.all_eq_true.mp hg w hw)
  unfold lw_tbl
  refine List.mem_append_right _ ?_
  obtain ⟨k, hk, rfl⟩ := List.mem_map.mp hw
  have hk2 := List.mem_range.mp hk
  have hz : (k, ([163, 165, 167, 169, 171, 173, 175, 177, 179] : List Nat)[k]?.getD 0) ∈ (List.range 9).zip ([163, 165, 167, 169, 171, 173, 175, 177, 179] : List Nat) := by
    refine List.mem_of_getElem? (i := k) ?_
    rw [List.getElem?_zip_eq_some]
    refine ⟨List.getElem?_range hk2, ?_⟩
    have : k < ([163, 165, 167, 169, 171, 173, 175, 177, 179] : List Nat).length := hk2
    simp [List.getElem?_eq_getElem this]
  exact List.mem_of_getElem? (of_decide_eq_true (List.all_eq_true.mp h _ hz))
theorem inC2 : ∀ w ∈ wsX20, w ∈ TB := by
  have h : ((List.range 3).zip [38, 40, 42]).all (fun q => decide (tables_1[q.2]? = some (u_lay RX2 TX2 q.1))) = true := by decide +kernel
  have hg : (u_ws RX2 TX2 3).all goodWord = true := by decide +kernel
  intro w hw
  refine tb_mem ?_ (List.all_eq_true.mp hg w hw)
  unfold lw_tbl
  refine List.mem_append_right _ ?_
  obtain ⟨k, hk, rfl⟩ := List.mem_map.mp hw
  have hk2 := List.mem_range.mp hk
  have hz : (k, ([38, 40, 42] : List Nat)[k]?.getD 0) ∈ (List.range 3).zip ([38, 40, 42] : List Nat) := by
    refine List.mem_of_getElem? (i := k) ?_
    rw [List.getElem?_zip_eq_some]
    refine ⟨List.getElem?_range hk2, ?_⟩
    have : k < ([38, 40, 42] : List Nat).length := hk2
    simp [List.getElem?_eq_getElem this]
  exact List.mem_of_getElem? (of_decide_eq_true (List.all_eq_true.mp h _ hz))
theorem inC3 : ∀ w ∈ wsX30, w ∈ TB := by
  have h : ((List.range 14).zip [252, 254, 256, 258, 260, 262, 264, 266, 268, 270, 272, 274, 276, 278]).all (fun q => decide (tables_1[q.2]? = some (u_lay RX3 TX3 q.1))) = true := by decide +kernel
  have hg : (u_ws RX3 TX3 14).all goodWord = true := by decide +kernel
  intro w hw
  refine tb_mem ?_ (List.all_eq_true.mp hg w hw)
  unfold lw_tbl
  refine List.mem_append_right _ ?_
  obtain ⟨k, hk, rfl⟩ := List.mem_map.mp hw
  have hk2 := List.mem_range.mp hk
  have hz : (k, ([252, 254, 256, 258, 260, 262, 264, 266, 268, 270, 272, 274, 276, 278] : List Nat)[k]?.getD 0) ∈ (List.range 14).zip ([252, 254, 256, 258, 260, 262, 264, 266, 268, 270, 272, 274, 276, 278] : List Nat) := by
    refine List.mem_of_getElem? (i := k) ?_
    rw [List.getElem?_zip_eq_some]
    refine ⟨List.getElem?_range hk2, ?_⟩
    have : k < ([252, 254, 256, 258, 260, 262, 264, 266, 268, 270, 272, 274, 276, 278] : List Nat).length := hk2
    simp [List.getElem?_eq_getElem this]
  exact List.mem_of_getElem? (of_decide_eq_true (List.all_eq_true.mp h _ hz))
theorem inC4 : ∀ w ∈ wsX40, w ∈ TB := by
  have h : ((List.range 4).zip [138, 140, 142, 144]).all (fun q => decide (tables_1[q.2]? = some (u_lay RX4 TX4 q.1))) = true := by decide +kernel
  have hg : (u_ws RX4 TX4 4).all goodWord = true := by decide +kernel
  intro w hw
  refine tb_mem ?_ (List.all_eq_true.mp hg w hw)
  unfold lw_tbl
  refine List.mem_append_right _ ?_
  obtain ⟨k, hk, rfl⟩ := List.mem_map.mp hw
  have hk2 := List.mem_range.mp hk
  have hz : (k, ([138, 140, 142, 144] : List Nat)[k]?.getD 0) ∈ (List.range 4).zip ([138, 140, 142, 144] : List Nat) := by
    refine List.mem_of_getElem? (i := k) ?_
    rw [List.getElem?_zip_eq_some]
    refine ⟨List.getElem?_range hk2, ?_⟩
    have : k < ([138, 140, 142, 144] : List Nat).length := hk2
    simp [List.getElem?_eq_getElem this]
  exact List.mem_of_getElem? (of_decide_eq_true (List.all_eq_true.mp h _ hz))
theorem inC5 : ∀ w ∈ wsX50, w ∈ TB := by
  have h : ((List.range 12).zip [92, 94, 96, 98, 100, 102, 104, 106, 108, 110, 112, 114]).all (fun q => decide (tables_1[q.2]? = some (u_lay RX5 TX5 q.1))) = true := by decide +kernel
  have hg : (u_ws RX5 TX5 12).all goodWord = true := by decide +kernel
  intro w hw
  refine tb_mem ?_ (List.all_eq_true.mp hg w hw)
  unfold lw_tbl
  refine List.mem_append_right _ ?_
  obtain ⟨k, hk, rfl⟩ := List.mem_map.mp hw
  have hk2 := List.mem_range.mp hk
  have hz : (k, ([92, 94, 96, 98, 100, 102, 104, 106, 108, 110, 112, 114] : List Nat)[k]?.getD 0) ∈ (List.range 12).zip ([92, 94, 96, 98, 100, 102, 104, 106, 108, 110, 112, 114] : List Nat) := by
    refine List.mem_of_getElem? (i := k) ?_
    rw [List.getElem?_zip_eq_some]
    refine ⟨List.getElem?_range hk2, ?_⟩
    have : k < ([92, 94, 96, 98, 100, 102, 104, 106, 108, 110, 112, 114] : List Nat).length := hk2
    simp [List.getElem?_eq_getElem this]
  exact List.mem_of_getElem? (of_decide_eq_true (List.all_eq_true.mp h _ hz))
theorem inC6 : ∀ w ∈ wsX60, w ∈ TB := by
  have h : ((List.range 3).zip [191, 193, 195]).all (fun q => decide (tables_1[q.2]? = some (u_lay RX6 TX6 q.1))) = true := by decide +kernel
  have hg : (u_ws RX6 TX6 3).all goodWord = true := by decide +kernel
  intro w hw
  refine tb_mem ?_ (List.all_eq_true.mp hg w hw)
  unfold lw_tbl
  refine List.mem_append_right _ ?_
  obtain ⟨k, hk, rfl⟩ := List.mem_map.mp hw
  have hk2 := List.mem_range.mp hk
  have hz : (k, ([191, 193, 195] : List Nat)[k]?.getD 0) ∈ (List.range 3).zip ([191, 193, 195] : List Nat) := by
    refine List.mem_of_getElem? (i := k) ?_
    rw [List.getElem?_zip_eq_some]
    refine ⟨List.getElem?_range hk2, ?_⟩
    have : k < ([191, 193, 195] : List Nat).length := hk2
    simp [List.getElem?_eq_getElem this]
  exact List.mem_of_getElem? (of_decide_eq_true (List.all_eq_true.mp h _ hz))
theorem inC7 : ∀ w ∈ wsX70, w ∈ TB := by
  have h : ((List.range 15).zip [302, 304, 306, 308, 310, 312, 314, 316, 318, 320, 322, 324, 326, 328, 330]).all (fun q => decide (tables_1[q.2]? = some (u_lay RX7 TX7 q.1))) = true := by decide +kernel
  have hg : (u_ws RX7 TX7 15).all goodWord = true := by decide +kernel
  intro w hw
  refine tb_mem ?_ (List.all_eq_true.mp hg w hw)
  unfold lw_tbl
  refine List.mem_append_right _ ?_
  obtain ⟨k, hk, rfl⟩ := List.mem_map.mp hw
  have hk2 := List.mem_range.mp hk
  have hz : (k, ([302, 304, 306, 308, 310, 312, 314, 316, 318, 320, 322, 324, 326, 328, 330] : List Nat)[k]?.getD 0) ∈ (List.range 15).zip ([302, 304, 306, 308, 310, 312, 314, 316, 318, 320, 322, 324, 326, 328, 330] : List Nat) := by
    refine List.mem_of_getElem? (i := k) ?_
    rw [List.getElem?_zip_eq_some]
    refine ⟨List.getElem?_range hk2, ?_⟩
    have : k < ([302, 304, 306, 308, 310, 312, 314, 316, 318, 320, 322, 324, 326, 328, 330] : List Nat).length := hk2
    simp [List.getElem?_eq_getElem this]
  exact List.mem_of_getElem? (of_decide_eq_true (List.all_eq_true.mp h _ hz))
theorem inC8 : ∀ w ∈ wsX80, w ∈ TB := by
  have h : ((List.range 5).zip [63, 65, 67, 69, 71]).all (fun q => decide (tables_1[q.2]? = some (u_lay RX8 TX8 q.1))) = true := by decide +kernel
  have hg : (u_ws RX8 TX8 5).all goodWord = true := by decide +kernel
  intro w hw
  refine tb_mem ?_ (List.all_eq_true.mp hg w hw)
  unfold lw_tbl
  refine List.mem_append_right _ ?_
  obtain ⟨k, hk, rfl⟩ := List.mem_map.mp hw
  have hk2 := List.mem_range.mp hk
  have hz : (k, ([63, 65, 67, 69, 71] : List Nat)[k]?.getD 0) ∈ (List.range 5).zip ([63, 65, 67, 69, 71] : List Nat) := by
    refine List.mem_of_getElem? (i := k) ?_
    rw [List.getElem?_zip_eq_some]
    refine ⟨List.getElem?_range hk2, ?_⟩
    have : k < ([63, 65, 67, 69, 71] : List Nat).length := hk2
    simp [List.getElem?_eq_getElem this]
  exact List.mem_of_getElem? (of_decide_eq_true (List.all_eq_true.mp h _ hz))
theorem inC9 : ∀ w ∈ wsX90, w ∈ TB := by
  have h : ((List.range 1).zip [125]).all (fun q => decide (tables_1[q.2]? = some (u_lay RX9 TX9 q.1))) = true := by decide +kernel
  have hg : (u_ws RX9 TX9 1).all goodWord = true := by decide +kernel
  intro w hw
  refine tb_mem ?_ (List.all_eq_true.mp hg w hw)
  unfold lw_tbl
  refine List.mem_append_right _ ?_
  obtain ⟨k, hk, rfl⟩ := List.mem_map.mp hw
  have hk2 := List.mem_range.mp hk
  have hz : (k, ([125] : List Nat)[k]?.getD 0) ∈ (List.range 1).zip ([125] : List Nat) := by
    refine List.mem_of_getElem? (i := k) ?_
    rw [List.getElem?_zip_eq_some]
    refine ⟨List.getElem?_range hk2, ?_⟩
    have : k < ([125] : List Nat).length := hk2
    simp [List.getElem?_eq_getElem this]
  exact List.mem_of_getElem? (of_decide_eq_true (List.all_eq_true.mp h _ hz))
theorem inC10 : ∀ w ∈ wsX100, w ∈ TB := by
  have h : ((List.range 10).zip [343, 345, 347, 349, 351, 353, 355, 357, 359, 361]).all (fun q => decide (tables_1[q.2]? = some (u_lay RX10 TX10 q.1))) = true := by decide +kernel
  have hg : (u_ws RX10 TX10 10).all goodWord = true := by decide +kernel
  intro w hw
  refine tb_mem ?_ (List.all_eq_true.mp hg w hw)
  unfold lw_tbl
  refine List.mem_append_right _ ?_
  obtain ⟨k, hk, rfl⟩ := List.mem_map.mp hw
  have hk2 := List.mem_range.mp hk
  have hz : (k, ([343, 345, 347, 349, 351, 353, 355, 357, 359, 361] : List Nat)[k]?.getD 0) ∈ (List.range 10).zip ([343, 345, 347, 349, 351, 353, 355, 357, 359, 361] : List Nat) := by
    refine List.mem_of_getElem? (i := k) ?_
    rw [List.getElem?_zip_eq_some]
    refine ⟨List.getElem?_range hk2, ?_⟩
    have : k < ([343, 345, 347, 349, 351, 353, 355, 357, 359, 361] : List Nat).length := hk2
    simp [List.getElem?_eq_getElem this]
  exact List.mem_of_getElem? (of_decide_eq_true (List.all_eq_true.mp h _ hz))
def ClsOK (ci : Nat) (q : vw_C) : Prop := q.1 = ownN ci ∧ (∀ w ∈ u_ws q.1 q.2.1 q.2.2, w ∈ TB) ∧ (∀ k, k < q.2.2 → parseFieldDescriptor (q.2.1 k).2.2.1 = some (tyC ci k)) ∧ (∀ a, a < q.2.2 → ∀ b, b < q.2.2 → a ≠ b → (q.2.1 a).2.1 ≠ (q.2.1 b).2.1) ∧ fN[ci]? = some q.2.2 ∧ ∀ k, k < q.2.2 → (q.2.1 k).1 = ownN ci
theorem cls_ok : ∀ (ci : Nat) (q : vw_C), vwCl[ci]? = some q → ClsOK ci q := by
  intro ci q h
  match ci, h with
  | 0, h => cases h; exact ⟨rfl, inC0, tyX0_ok, nmX0, rfl, by decide +kernel⟩
  | 1, h => cases h; exact ⟨rfl, inC1, tyX1_ok, nmX1, rfl, by decide +kernel⟩
  | 2, h => cases h; exact ⟨rfl, inC2, tyX2_ok, nmX2, rfl, by decide +kernel⟩
  | 3, h => cases h; exact ⟨rfl, inC3, tyX3_ok, nmX3, rfl, by decide +kernel⟩
  | 4, h => cases h; exact ⟨rfl, inC4, tyX4_ok, nmX4, rfl, by decide +kernel⟩
  | 5, h => cases h; exact ⟨rfl, inC5, tyX5_ok, nmX5, rfl, by decide +kernel⟩
  | 6, h => cases h; exact ⟨rfl, inC6, tyX6_ok, nmX6, rfl, by decide +kernel⟩
  | 7, h => cases h; exact ⟨rfl, inC7, tyX7_ok, nmX7, rfl, by decide +kernel⟩
  | 8, h => cases h; exact ⟨rfl, inC8, tyX8_ok, nmX8, rfl, by decide +kernel⟩
  | 9, h => cases h; exact ⟨rfl, inC9, tyX9_ok, nmX9, rfl, by decide +kernel⟩
  | 10, h => cases h; exact ⟨rfl, inC10, tyX10_ok, nmX10, rfl, by decide +kernel⟩
  | 11, h => cases h; exact ⟨rfl, inC10, tyX10_ok, nmX10, rfl, by decide +kernel⟩
  | n + 12, h => simp [vwCl] at h
def flk : List (Nat × Nat × Nat × Nat) := [(2, 9, 2, 0), (2, 15, 2, 1), (2, 18, 2, 2), (8, 9, 8, 0), (8, 15, 8, 1), (8, 19, 8, 2), (8, 22, 8, 3), (8, 25, 8, 4), (5, 9, 5, 0), (5, 15, 5, 1), (5, 19, 5, 2), (5, 22, 5, 3), (5, 25, 5, 4), (5, 28, 5, 5), (5, 31, 5, 6), (5, 34, 5, 7), (5, 37, 5, 8), (5, 40, 5, 9), (5, 43, 5, 10), (5, 46, 5, 11), (9, 11, 9, 0), (4, 9, 4, 0), (4, 15, 4, 1), (4, 18, 4, 2), (4, 22, 4, 3), (1, 31, 1, 0), (1, 35, 1, 1), (1, 39, 1, 2), (1, 9, 1, 3), (1, 15, 1, 4), (1, 18, 1, 5), (1, 22, 1, 6), (1, 25, 1, 7), (1, 28, 1, 8), (6, 9, 6, 0), (6, 15, 6, 1), (6, 19, 6, 2), (0, 32, 0, 0), (0, 36, 0, 1), (0, 40, 0, 2), (0, 9, 0, 3), (0, 15, 0, 4), (0, 19, 0, 5), (0, 22, 0, 6), (0, 26, 0, 7), (0, 29, 0, 8), (3, 43, 3, 0), (3, 47, 3, 1), (3, 51, 3, 2), (3, 55, 3, 3), (3, 9, 3, 4), (3, 15, 3, 5), (3, 18, 3, 6), (3, 21, 3, 7), (3, 24, 3, 8), (3, 27, 3, 9), (3, 31, 3, 10), (3, 34, 3, 11), (3, 37, 3, 12), (3, 40, 3, 13), (7, 50, 7, 0), (7, 54, 7, 1), (7, 58, 7, 2), (7, 9, 7, 3), (7, 15, 7, 4), (7, 19, 7, 5), (7, 22, 7, 6), (7, 25, 7, 7), (7, 28, 7, 8), (7, 31, 7, 9), (7, 34, 7, 10), (7, 38, 7, 11), (7, 41, 7, 12), (7, 44, 7, 13), (7, 47, 7, 14), (10, 10, 10, 0), (10, 19, 10, 1), (10, 26, 10, 2), (10, 33, 10, 3), (10, 40, 10, 4), (10, 49, 10, 5), (10, 58, 10, 6), (10, 65, 10, 7), (10, 79, 10, 8), (10, 83, 10, 9)]
def flw (r : Nat × Nat × Nat × Nat) : Cond := match vwCl[r.2.2.1]? with
  | some q => .fieldLink (ownN r.1) r.2.1 (q.2.1 r.2.2.2).1 (q.2.1 r.2.2.2).2.1 (q.2.1 r.2.2.2).2.2.1
  | none => .initialized ""
def flp : List Nat := [35, 36, 37, 58, 59, 60, 61, 62, 80, 81, 82, 83, 84, 85, 86, 87, 88, 89, 90, 91, 124, 134, 135, 136, 137, 154, 155, 156, 157, 158, 159, 160, 161, 162, 188, 189, 190, 204, 205, 206, 207, 208, 209, 210, 211, 212, 238, 239, 240, 241, 242, 243, 244, 245, 246, 247, 248, 249, 250, 251, 287, 288, 289, 290, 291, 292, 293, 294, 295, 296, 297, 298, 299, 300, 301, 333, 334, 335, 336, 337, 338, 339, 340, 341, 342]
theorem zip_all {α : Type} {f : α → Cond} {rs : List α} {ps : List Nat} (hl : rs.length = ps.length) (h : (rs.zip ps).all (fun q => decide (tables_1[q.2]? = some (f q.1)) && goodWord (f q.1)) = true) : ∀ r ∈ rs, f r ∈ TB := by
  intro r hr
  obtain ⟨k, hk⟩ := List.getElem?_of_mem hr
  have hkl := (List.getElem?_eq_some_iff.mp hk).1
  have hz : (r, ps[k]) ∈ rs.zip ps := by
    refine List.mem_of_getElem? (i := k) ?_
    rw [List.getElem?_zip_eq_some]
    exact ⟨hk, List.getElem?_eq_getElem (hl ▸ hkl)⟩
  have h1 := List.all_eq_true.mp h _ hz
  simp only [Bool.and_eq_true, decide_eq_true_eq] at h1
  exact tb_at _ h1.1 h1.2
theorem flk_ok : ∀ r ∈ flk, flw r ∈ TB := zip_all (ps := flp) (by decide +kernel) (by decide +kernel)
theorem flk_lt : flk.all (fun r => match fN[r.2.2.1]? with | some n => decide (r.2.2.2 < n) | none => false) = true := by decide +kernel
def nlk : List (Nat × Nat × Nat) := [(12, 8, 10), (10, 7, 2), (10, 16, 8), (10, 23, 5), (10, 30, 9), (10, 37, 4), (10, 44, 1), (10, 53, 6), (10, 62, 0), (10, 69, 3), (10, 74, 7)]
theorem nlk_ok1 : ∀ r ∈ nlk, Cond.classLink (ownN r.1) r.2.1 (ownN r.2.2) ∈ TB := zip_all (f := fun r : Nat × Nat × Nat => Cond.classLink (ownN r.1) r.2.1 (ownN r.2.2)) (ps := [21, 29, 46, 74, 117, 128, 147, 182, 198, 232, 281]) (by decide +kernel) (by decide +kernel)
theorem nlk_ok2 : ∀ r ∈ nlk, Cond.instantiable (ownN r.2.2) (fN.getD r.2.2 0) ∈ TB := zip_all (f := fun r : Nat × Nat × Nat => Cond.instantiable (ownN r.2.2) (fN.getD r.2.2 0)) (ps := [22, 30, 47, 75, 118, 129, 148, 183, 199, 233, 282]) (by decide +kernel) (by decide +kernel)
theorem nlk_ok3 : ∀ r ∈ nlk, Cond.initialized (ownN r.2.2) ∈ TB := zip_all (f := fun r : Nat × Nat × Nat => Cond.initialized (ownN r.2.2)) (ps := [1, 2, 3, 5, 6, 7, 8, 9, 10, 11, 12]) (by decide +kernel) (by decide +kernel)
def klk : List (Nat × Nat × Int) := [(12, 100, 15526279), (12, 101, 2147483647), (12, 15, -2000000001), (12, 18, -2000000002), (12, 21, -2000000003), (13, 265, 1431655765), (13, 266, 858993459), (13, 267, 252645135), (1, 93, 100000), (12, 170, -2000000000)]
theorem klk_ok : ∀ r ∈ klk, Cond.constant (ownN r.1) r.2.1 (Int32.ofInt r.2.2) ∈ TB := zip_all (f := fun r : Nat × Nat × Int => Cond.constant (ownN r.1) r.2.1 (Int32.ofInt r.2.2)) (ps := [367, 368, 531, 532, 533, 1026, 1027, 1028, 1126, 1406]) (by decide +kernel) (by decide +kernel)
def olk : List (Nat × Nat) := [(10, 1), (2, 3), (8, 3), (5, 3), (9, 3), (4, 3), (1, 3), (6, 3), (0, 3), (3, 3), (7, 3)]
theorem olk_ok : ∀ r ∈ olk, Cond.methodLink (ownN r.1) r.2 Lib.objectInit ∈ TB := zip_all (f := fun r : Nat × Nat => Cond.methodLink (ownN r.1) r.2 Lib.objectInit) (ps := [26, 34, 51, 79, 122, 133, 152, 187, 203, 237, 286]) (by decide +kernel) (by decide +kernel)
theorem obj_ok : Cond.instanceMethod Lib.objectInit ∈ TB ∧ Cond.code Lib.objectInit ⟨#[0xb1]⟩ 1 none ∈ TB := ⟨tb_at 27 (by decide +kernel) (by decide +kernel), tb_at 28 (by decide +kernel) (by decide +kernel)⟩
theorem arr_okI : Cond.arrayClass .int ∈ TB := tb_at 45 (by decide +kernel) (by decide +kernel)
