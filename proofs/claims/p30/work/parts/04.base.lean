/-! numbers: ints as integers in range; worlds: cells by number, ints by (cell, place) -/
def inR (x : Int) : Prop := -2147483648 ≤ x ∧ x ≤ 2147483647
def wrap (z : Int) : Int := (z + 2147483648) % 4294967296 - 2147483648
theorem wrap_in (z : Int) : inR (wrap z) := by unfold inR wrap; omega
theorem wrap_eq {z : Int} (h : inR z) : wrap z = z := by unfold inR at h; unfold wrap; omega
theorem wrap_bmod (z : Int) : wrap z = z.bmod (2 ^ 32) := by
  unfold wrap; rw [Int.bmod_def]; omega
theorem i32_ofInt_toInt {x : Int} (h : inR x) : (Int32.ofInt x).toInt = x := by
  rw [Int32.toInt_ofInt]; rw [show Int32.size = 2 ^ 32 from rfl, ← wrap_bmod, wrap_eq h]
theorem i32_toInt_in (x : Int32) : inR x.toInt := by
  have h1 := x.le_toInt
  have h2 := x.toInt_lt
  unfold inR
  simp at h1 h2
  omega
theorem i32_wrap (z : Int) : Int32.ofInt (wrap z) = Int32.ofInt z := by
  apply Int32.toInt_inj.mp
  rw [i32_ofInt_toInt (wrap_in z), Int32.toInt_ofInt, wrap_bmod]
theorem i32_inj {x y : Int} (hx : inR x) (hy : inR y) (h : Int32.ofInt x = Int32.ofInt y) : x = y := by
  rw [← i32_ofInt_toInt hx, ← i32_ofInt_toInt hy, h]
theorem i32_lt {x y : Int} (hx : inR x) (hy : inR y) : Int32.ofInt x < Int32.ofInt y ↔ x < y := by
  rw [Int32.lt_iff_toInt_lt, i32_ofInt_toInt hx, i32_ofInt_toInt hy]
theorem i32_le {x y : Int} (hx : inR x) (hy : inR y) : Int32.ofInt x ≤ Int32.ofInt y ↔ x ≤ y := by
  rw [Int32.le_iff_toInt_le, i32_ofInt_toInt hx, i32_ofInt_toInt hy]
theorem i32_eq {x y : Int} (hx : inR x) (hy : inR y) : Int32.ofInt x = Int32.ofInt y ↔ x = y :=
  ⟨i32_inj hx hy, fun h => h ▸ rfl⟩
theorem in0 : inR 0 := by unfold inR; omega
theorem i32_zero : Int32.ofInt 0 = 0 := rfl
def jdiv (x y : Int) : Int := wrap (x.tdiv y)
def jrem (x y : Int) : Int := x.tmod y
def jand (x y : Int) : Int := (Int32.ofInt x &&& Int32.ofInt y).toInt
def jor (x y : Int) : Int := (Int32.ofInt x ||| Int32.ofInt y).toInt
def jxor (x y : Int) : Int := (Int32.ofInt x ^^^ Int32.ofInt y).toInt
def jshl (x y : Int) : Int := (Int32.ofInt x <<< (Int32.ofInt y &&& 31)).toInt
def jshr (x y : Int) : Int := (Int32.ofInt x >>> (Int32.ofInt y &&& 31)).toInt
def jushr (x y : Int) : Int := (((Int32.ofInt x).toUInt32 >>> ((Int32.ofInt y).toUInt32 &&& Int32.toUInt32 31)).toInt32).toInt
theorem jrem_in {x y : Int} (hx : inR x) : inR (jrem x y) := by
  unfold jrem inR at *
  have h1 : (x.tmod y).natAbs = x.natAbs % y.natAbs := Int.natAbs_tmod x y
  have h2 := Nat.mod_le x.natAbs y.natAbs
  rcases Int.le_total 0 x with h | h
  · have h4 := Int.tmod_nonneg y h
    omega
  · have h4 := Int.tmod_nonneg y (show 0 ≤ -x by omega)
    rw [Int.neg_tmod] at h4
    omega
theorem i32_div {x y : Int} (hx : inR x) (hy : inR y) : Int32.ofInt x / Int32.ofInt y = Int32.ofInt (jdiv x y) := by
  apply Int32.toInt_inj.mp
  unfold jdiv
  rw [Int32.toInt_div, i32_ofInt_toInt hx, i32_ofInt_toInt hy, i32_wrap, Int32.toInt_ofInt]
/-- what a method knows of cells: class (below 12) and its slots (0: an int, 1: null, k + 2: the cell k), or 12 / 13: a row of ints / booleans and its length -/
abbrev Lay : Type := Nat × List Nat
abbrev Sg : Type := Nat → Nat → Int
abbrev AV : Type := Int ⊕ Nat
abbrev LSt : Type := List Lay × Sg
def up2 (σ : Sg) (k i : Nat) (x : Int) : Sg := fun a b => if a = k ∧ b = i then x else σ a b
def fresh (σ : Sg) (k : Nat) : Sg := fun a b => if a = k then 0 else σ a b
def cellE (ads : List Nat) (cI cZ : ClassId) (q : Lay) (f : Nat → Int) : va_E :=
  if q.1 < 12 then .inr (q.1, q.2.mapIdx (fun i s => if s = 0 then Value.int (Int32.ofInt (f i)) else if s = 1 then Value.null else Value.ref (ads.getD (s - 2) 0)))
  else .inl (if q.1 = 12 then cI else cZ, q.2.headD 0, .inl (fun i => Int32.ofInt (f i)))
def mkW (ads : List Nat) (cI cZ : ClassId) (lay : List Lay) (σ : Sg) : va_W :=
  lay.mapIdx (fun k q => (ads.getD k 0, cellE ads cI cZ q (σ k)))
theorem mkW_get (ads : List Nat) (cI cZ : ClassId) (lay : List Lay) (σ : Sg) (k : Nat) :
    (mkW ads cI cZ lay σ)[k]? = (lay[k]?).map (fun q => (ads.getD k 0, cellE ads cI cZ q (σ k))) := by
  unfold mkW
  rw [List.getElem?_mapIdx]
theorem mkW_len (ads : List Nat) (cI cZ : ClassId) (lay : List Lay) (σ : Sg) : (mkW ads cI cZ lay σ).length = lay.length := by
  unfold mkW; rw [List.length_mapIdx]
/-- an abstract value and the machine's -/
def vr (ads : List Nat) (v : AV) (c : Value) : Prop := match v with
  | .inl x => inR x ∧ c = .int (Int32.ofInt x)
  | .inr k => ∃ a, ads[k]? = some a ∧ c = .ref a
def vrs (ads : List Nat) : List AV → List Value → Prop
  | [], [] => True
  | v :: vs, c :: cs => vr ads v c ∧ vrs ads vs cs
  | _, _ => False
theorem vr_mono {ads ads' : List Nat} {v : AV} {c : Value} (h : vr ads v c) : vr (ads ++ ads') v c := by
  cases v with
  | inl x => exact h
  | inr k =>
    obtain ⟨a, h1, h2⟩ := h
    exact ⟨a, by rw [List.getElem?_append_left (List.getElem?_eq_some_iff.mp h1).1]; exact h1, h2⟩
theorem vrs_mono {ads ads' : List Nat} : ∀ {vs : List AV} {cs : List Value}, vrs ads vs cs → vrs (ads ++ ads') vs cs
  | [], [], _ => trivial
  | _ :: _, _ :: _, h => ⟨vr_mono h.1, vrs_mono h.2⟩
  | [], _ :: _, h => h.elim
  | _ :: _, [], h => h.elim
theorem vr_cat {ads : List Nat} {v : AV} {c : Value} (h : vr ads v c) : c.category = 1 := by
  cases v with
  | inl x => rw [h.2]; rfl
  | inr k => obtain ⟨a, -, h2⟩ := h; rw [h2]; rfl
theorem vrs_len {ads : List Nat} : ∀ {vs : List AV} {cs : List Value}, vrs ads vs cs → vs.length = cs.length
  | [], [], _ => rfl
  | _ :: _, _ :: _, h => by rw [List.length_cons, List.length_cons, vrs_len h.2]
  | [], _ :: _, h => h.elim
  | _ :: _, [], h => h.elim
theorem vrs_cat {ads : List Nat} : ∀ {vs : List AV} {cs : List Value}, vrs ads vs cs → (cs.map fun v => v.category).sum = vs.length
  | [], [], _ => rfl
  | _ :: _, _ :: _, h => by rw [List.map_cons, List.sum_cons, vr_cat h.1, vrs_cat h.2, List.length_cons]; omega
  | [], _ :: _, h => h.elim
  | _ :: _, [], h => h.elim
theorem vrs_app {ads : List Nat} : ∀ {v1 v2 : List AV} {cs : List Value}, vrs ads (v1 ++ v2) cs → ∃ c1 c2, cs = c1 ++ c2 ∧ vrs ads v1 c1 ∧ vrs ads v2 c2
  | [], v2, cs, h => ⟨[], cs, rfl, trivial, h⟩
  | v :: v1, v2, c :: cs, h => by
    obtain ⟨c1, c2, e, h1, h2⟩ := vrs_app (v1 := v1) (v2 := v2) h.2
    exact ⟨c :: c1, c2, by rw [e]; rfl, ⟨h.1, h1⟩, h2⟩
  | v :: v1, v2, [], h => h.elim
theorem vrs_app' {ads : List Nat} : ∀ {v1 v2 : List AV} {c1 c2 : List Value}, vrs ads v1 c1 → vrs ads v2 c2 → vrs ads (v1 ++ v2) (c1 ++ c2)
  | [], _, [], _, _, h2 => h2
  | _ :: _, _, _ :: _, _, h1, h2 => ⟨h1.1, vrs_app' h1.2 h2⟩
  | [], _, _ :: _, _, h, _ => h.elim
  | _ :: _, _, [], _, h, _ => h.elim
theorem vrs_rev {ads : List Nat} : ∀ {vs : List AV} {cs : List Value}, vrs ads vs cs → vrs ads vs.reverse cs.reverse
  | [], [], _ => trivial
  | v :: vs, c :: cs, h => by
    rw [List.reverse_cons, List.reverse_cons]
    exact vrs_app' (vrs_rev h.2) ⟨h.1, trivial⟩
  | [], _ :: _, h => h.elim
  | _ :: _, [], h => h.elim
/-- locals -/
def lrs (ads : List Nat) (nL : Nat) (L : List (Option AV)) (ls : Array Slot) : Prop :=
  ls.size = nL ∧ L.length ≤ nL ∧ lv_wf ls ∧ ∀ (i : Nat) (v : AV), L[i]? = some (some v) → ∃ c, vr ads v c ∧ ls[i]? = some (.val c)
theorem lrs_mono {ads ads' : List Nat} {nL : Nat} {L : List (Option AV)} {ls : Array Slot} (h : lrs ads nL L ls) : lrs (ads ++ ads') nL L ls :=
  ⟨h.1, h.2.1, h.2.2.1, fun i v hi => by obtain ⟨c, h1, h2⟩ := h.2.2.2 i v hi; exact ⟨c, vr_mono h1, h2⟩⟩
def allv (ls : Array Slot) : List (Nat × Value) := (List.range ls.size).filterMap (fun i => match (ls[i]? : Option Slot) with | some (Slot.val c) => some (i, c) | _ => none)
theorem allv_in {ls : Array Slot} {i : Nat} {c : Value} : (i, c) ∈ allv ls ↔ ls[i]? = some (.val c) := by
  unfold allv
  rw [List.mem_filterMap]
  constructor
  · rintro ⟨j, -, h⟩
    split at h
    · cases h; assumption
    · cases h
  · intro h
    refine ⟨i, List.mem_range.mpr (Array.getElem?_eq_some_iff.mp h).1, ?_⟩
    rw [h]
theorem allv_has {ads : List Nat} {nL : Nat} {L : List (Option AV)} {ls : Array Slot} (h : lrs ads nL L ls) : lv_has ls nL (allv ls) :=
  ⟨h.1, h.2.2.1, fun q hq => allv_in.mp hq⟩
theorem lrs_put {ads : List Nat} {nL : Nat} {L : List (Option AV)} {ls ls' : Array Slot} (h : lrs ads nL L ls) {i : Nat} {v : AV} {c : Value} (hv : vr ads v c)
    (h' : lv_has ls' nL ((i, c) :: (allv ls).filter (fun q => !(q.1 == i) && !(q.1 + 1 == i && q.2.category == 2)))) : lrs ads nL (L.set i (some v)) ls' := by
  refine ⟨h'.1, by rw [List.length_set]; exact h.2.1, h'.2.1, fun j w hj => ?_⟩
  by_cases hji : j = i
  · subst hji
    by_cases hl : j < L.length
    · rw [List.getElem?_set_self hl] at hj
      cases hj
      exact ⟨c, hv, h'.2.2 (j, c) List.mem_cons_self⟩
    · rw [List.getElem?_eq_none (by rw [List.length_set]; omega)] at hj
      cases hj
  · rw [List.getElem?_set_ne (Ne.symm hji)] at hj
    obtain ⟨cw, hw1, hw2⟩ := h.2.2.2 j w hj
    refine ⟨cw, hw1, h'.2.2 (j, cw) (List.mem_cons_of_mem _ ?_)⟩
    rw [List.mem_filter]
    refine ⟨allv_in.mpr hw2, ?_⟩
    have hcw := vr_cat hw1
    simp [hji, hcw]
