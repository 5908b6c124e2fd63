/-! one instruction at a time: what it does to the abstract state, and that the machine does it -/
/-- what holds of the links between nest mates, of a cast of an exception to its class and of who declares a constructor goes on holding, but is no word of the tables alone -/
def DL : List String := ["java/lang/RuntimeException", "java/lang/Exception", "java/lang/Throwable"]
def NW (s : State) : Prop := (∀ q ∈ NL, va_Nw (.methodLinkNest q.1 q.2.1 q.2.2.1 q.2.2.2) s) ∧ (∀ E : Nat, va_Nw (.castable (exN E) (exN E)) s) ∧ ∀ Y ∈ DL, va_Nw (.declares (Bundle.initS Y)) s
theorem NW.moved {s U : State} (hw : s.WarmedH U.vm) (h : NW s) : NW U := ⟨fun q hq => va_Nw.warmM hw (h.1 q hq), fun E => va_Nw.warmC hw (h.2.1 E), fun Y hY => va_Nw.warmD hw (h.2.2 Y hY)⟩
theorem NW.same {s U : State} (hw : s.vm = U.vm) (h : NW s) : NW U := ⟨fun q hq => va_Nw.same rfl hw (h.1 q hq), fun E => va_Nw.same rfl hw (h.2.1 E), fun Y hY => va_Nw.same rfl hw (h.2.2 Y hY)⟩
section RN
variable {p : Program} {l : Launch} {e : Env} {R : Room} {s : State} {m : MethodId} {args : Array Value} {below : List Frame} {meth : Method} {c : Code} {A : Nat → Prop} {D : va_G} {cI cZ : ClassId} {Q : State → Prop}
abbrev aTys (cI _ : ClassId) : List (ClassId × FieldType) := [(cI, .int)]
def KN (D : va_G) (cI cZ : ClassId) (s : State) : Prop := va_K D vwCl (aTys cI cZ) s ∧ NW s
theorem KN.moved {s U : State} (hw : s.WarmedH U.vm) (h : KN D cI cZ s) : KN D cI cZ U := ⟨va_K.moved hw.alike h.1, NW.moved hw h.2⟩
/-- what stands all through a method's run -/
def Cx (on : Nat) (cc : ByteArray) (nL : Nat) (init : Bool) (p : Program) (s : State) (m : MethodId) (args : Array Value) (meth : Method) (c : Code) (A : Nat → Prop) (D : va_G) (cI cZ : ClassId) : Prop :=
  p.tables.exec = Jvm.exec ∧ c.code = cc ∧ c.maxLocals = nL ∧ s.vm.findClass (ownN on) = some m.cls ∧ (∀ w ∈ TB, w.before args s = true) ∧ meth.locks = false ∧ (init = true → meth.name = "<init>") ∧ KN D cI cZ s ∧ ∀ q : Nat, s.heap.size ≤ q → A q
/-- the world in the heap -/
def WH (s : State) (A : Nat → Prop) (D : va_G) (cI cZ : ClassId) (ads0 ads : List Nat) (S : LSt) (H : Heap) (locs : List Loc) : Prop :=
  va_P D vwCl (mkW ads cI cZ S.1 S.2) H ∧ va_D A (mkW ads cI cZ S.1 S.2) ∧ va_S A s.heap H locs ∧ ads.length = S.1.length ∧ (∀ k i : Nat, inR (S.2 k i)) ∧ ads0 <+: ads
def nSl (lay : List Lay) : Nat := (lay.map (fun q => if q.1 < 12 then q.2.length else q.2.headD 0)).sum
/-- from here the method comes to a state with Q -/
def Rn (p : Program) (l : Launch) (e : Env) (R : Room) (s : State) (m : MethodId) (args : Array Value) (below : List Frame) (meth : Method) (c : Code) (A : Nat → Prop) (D : va_G) (cI cZ : ClassId) (Q : State → Prop) (nL : Nat) (ads0 : List Nat) (n0 n1 : Nat) (pc : Nat) (L : List (Option AV)) (st : List AV) (S : LSt) : Prop :=
  ∀ (ads : List Nat) (H : Heap) (locs : List Loc) (ls : Array Slot) (cst : List Value), WH s A D cI cZ ads0 ads S H locs → lrs ads nL L ls → vrs ads st cst → W p l e R s m args below meth c H locs (S.1.length - n0) (nSl S.1 - n1) Q (F0 m pc ls cst)
variable {on : Nat} {cc : ByteArray} {nL : Nat} {init : Bool} {ads0 : List Nat} {n0 n1 pc : Nat} {L : List (Option AV)} {st : List AV} {S : LSt}
theorem vr_int {ads : List Nat} {x : Int} {cv : Value} (h : vr ads (.inl x) cv) : inR x ∧ cv = .int (Int32.ofInt x) := h
/-- loads -/
theorem rn_iload {i : Nat} {x : Int} (hC : Cx on cc nL init p s m args meth c A D cI cZ) (hd : decode cc pc = .ok (.iload i, 2)) (hl : L[i]? = some (some (.inl x)))
    (k : Rn p l e R s m args below meth c A D cI cZ Q nL ads0 n0 n1 (pc + 2) L (.inl x :: st) S) : Rn p l e R s m args below meth c A D cI cZ Q nL ads0 n0 n1 pc L st S := by
  intro ads H locs ls cst hW hL hv
  obtain ⟨hx, hb, -⟩ := hC
  obtain ⟨cv, h1, h2⟩ := hL.2.2.2 i _ hl
  obtain ⟨h3, rfl⟩ := vr_int h1
  exact lv_iload hx hb hd h2 (k ads H locs ls _ hW hL ⟨h1, hv⟩)
theorem rn_iload_n {i : Fin 4} {x : Int} (hC : Cx on cc nL init p s m args meth c A D cI cZ) (hd : decode cc pc = .ok (.iload_n i, 1)) (hl : L[i.val]? = some (some (.inl x)))
    (k : Rn p l e R s m args below meth c A D cI cZ Q nL ads0 n0 n1 (pc + 1) L (.inl x :: st) S) : Rn p l e R s m args below meth c A D cI cZ Q nL ads0 n0 n1 pc L st S := by
  intro ads H locs ls cst hW hL hv
  obtain ⟨hx, hb, -⟩ := hC
  obtain ⟨cv, h1, h2⟩ := hL.2.2.2 i.val _ hl
  obtain ⟨h3, rfl⟩ := vr_int h1
  exact lv_iload_n hx hb hd rfl h2 (k ads H locs ls _ hW hL ⟨h1, hv⟩)
theorem rn_aload {i : Nat} {x : Nat} (hC : Cx on cc nL init p s m args meth c A D cI cZ) (hd : decode cc pc = .ok (.aload i, 2)) (hl : L[i]? = some (some (.inr x)))
    (k : Rn p l e R s m args below meth c A D cI cZ Q nL ads0 n0 n1 (pc + 2) L (.inr x :: st) S) : Rn p l e R s m args below meth c A D cI cZ Q nL ads0 n0 n1 pc L st S := by
  intro ads H locs ls cst hW hL hv
  obtain ⟨hx, hb, -⟩ := hC
  obtain ⟨cv, h1, h2⟩ := hL.2.2.2 i _ hl
  obtain ⟨a, h3, rfl⟩ := id h1
  exact lv_aload hx hb hd h2 (k ads H locs ls _ hW hL ⟨h1, hv⟩)
theorem rn_aload_n {i : Fin 4} {x : Nat} (hC : Cx on cc nL init p s m args meth c A D cI cZ) (hd : decode cc pc = .ok (.aload_n i, 1)) (hl : L[i.val]? = some (some (.inr x)))
    (k : Rn p l e R s m args below meth c A D cI cZ Q nL ads0 n0 n1 (pc + 1) L (.inr x :: st) S) : Rn p l e R s m args below meth c A D cI cZ Q nL ads0 n0 n1 pc L st S := by
  intro ads H locs ls cst hW hL hv
  obtain ⟨hx, hb, -⟩ := hC
  obtain ⟨cv, h1, h2⟩ := hL.2.2.2 i.val _ hl
  obtain ⟨a, h3, rfl⟩ := id h1
  exact lv_aload_n hx hb hd rfl h2 (k ads H locs ls _ hW hL ⟨h1, hv⟩)
/-- stores -/
theorem rn_istore {i : Nat} {x : Int} (hC : Cx on cc nL init p s m args meth c A D cI cZ) (hd : decode cc pc = .ok (.istore i, 2)) (hl : i < L.length)
    (k : Rn p l e R s m args below meth c A D cI cZ Q nL ads0 n0 n1 (pc + 2) (L.set i (some (.inl x))) st S) : Rn p l e R s m args below meth c A D cI cZ Q nL ads0 n0 n1 pc L (.inl x :: st) S := by
  intro ads H locs ls cst hW hL hv
  obtain ⟨hx, hb, -⟩ := hC
  match cst, hv with
  | cv :: cst, hv =>
    obtain ⟨h3, rfl⟩ := vr_int hv.1
    exact lv_istore hx hb hd (allv_has hL) (Nat.lt_of_lt_of_le hl hL.2.1) rfl (fun ls' h' => k ads H locs ls' _ hW (lrs_put hL hv.1 h') hv.2)
theorem rn_istore_n {i : Fin 4} {x : Int} (hC : Cx on cc nL init p s m args meth c A D cI cZ) (hd : decode cc pc = .ok (.istore_n i, 1)) (hl : i.val < L.length)
    (k : Rn p l e R s m args below meth c A D cI cZ Q nL ads0 n0 n1 (pc + 1) (L.set i.val (some (.inl x))) st S) : Rn p l e R s m args below meth c A D cI cZ Q nL ads0 n0 n1 pc L (.inl x :: st) S := by
  intro ads H locs ls cst hW hL hv
  obtain ⟨hx, hb, -⟩ := hC
  match cst, hv with
  | cv :: cst, hv =>
    obtain ⟨h3, rfl⟩ := vr_int hv.1
    exact lv_istore_n hx hb hd rfl (allv_has hL) (Nat.lt_of_lt_of_le hl hL.2.1) rfl (fun ls' h' => k ads H locs ls' _ hW (lrs_put hL hv.1 h') hv.2)
theorem rn_astore {i : Nat} {x : Nat} (hC : Cx on cc nL init p s m args meth c A D cI cZ) (hd : decode cc pc = .ok (.astore i, 2)) (hl : i < L.length)
    (k : Rn p l e R s m args below meth c A D cI cZ Q nL ads0 n0 n1 (pc + 2) (L.set i (some (.inr x))) st S) : Rn p l e R s m args below meth c A D cI cZ Q nL ads0 n0 n1 pc L (.inr x :: st) S := by
  intro ads H locs ls cst hW hL hv
  obtain ⟨hx, hb, -⟩ := hC
  match cst, hv with
  | cv :: cst, hv =>
    obtain ⟨a, h3, rfl⟩ := id hv.1
    exact lv_astore hx hb hd (allv_has hL) (Nat.lt_of_lt_of_le hl hL.2.1) rfl (fun ls' h' => k ads H locs ls' _ hW (lrs_put hL hv.1 h') hv.2)
theorem rn_astore_n {i : Fin 4} {x : Nat} (hC : Cx on cc nL init p s m args meth c A D cI cZ) (hd : decode cc pc = .ok (.astore_n i, 1)) (hl : i.val < L.length)
    (k : Rn p l e R s m args below meth c A D cI cZ Q nL ads0 n0 n1 (pc + 1) (L.set i.val (some (.inr x))) st S) : Rn p l e R s m args below meth c A D cI cZ Q nL ads0 n0 n1 pc L (.inr x :: st) S := by
  intro ads H locs ls cst hW hL hv
  obtain ⟨hx, hb, -⟩ := hC
  match cst, hv with
  | cv :: cst, hv =>
    obtain ⟨a, h3, rfl⟩ := id hv.1
    exact lv_astore_n hx hb hd rfl (allv_has hL) (Nat.lt_of_lt_of_le hl hL.2.1) rfl (fun ls' h' => k ads H locs ls' _ hW (lrs_put hL hv.1 h') hv.2)
theorem rn_iinc {i : Nat} {n x : Int} (hC : Cx on cc nL init p s m args meth c A D cI cZ) (hd : decode cc pc = .ok (.iinc i n, 3)) (hl : L[i]? = some (some (.inl x)))
    (k : Rn p l e R s m args below meth c A D cI cZ Q nL ads0 n0 n1 (pc + 3) (L.set i (some (.inl (wrap (x + n))))) st S) : Rn p l e R s m args below meth c A D cI cZ Q nL ads0 n0 n1 pc L st S := by
  intro ads H locs ls cst hW hL hv
  obtain ⟨hx, hb, -⟩ := hC
  obtain ⟨cv, h1, h2⟩ := hL.2.2.2 i _ hl
  obtain ⟨h3, rfl⟩ := vr_int h1
  obtain ⟨j, hj⟩ := List.getElem?_of_mem (allv_in.mpr h2)
  have hlt : i < L.length := (List.getElem?_eq_some_iff.mp hl).1
  have hw : vr ads (.inl (wrap (x + n))) (.int (Int32.ofInt x + Int32.ofInt n)) := ⟨wrap_in _, by rw [i32_wrap, Int32.ofInt_add]⟩
  exact lv_iinc hx hb hd (allv_has hL) hj rfl (Nat.lt_of_lt_of_le hlt hL.2.1) rfl (fun ls' h' => k ads H locs ls' _ hW (lrs_put hL hw h') hv)
/-- constants -/
theorem rn_iconst {n : Int} (hC : Cx on cc nL init p s m args meth c A D cI cZ) (hd : decode cc pc = .ok (.iconst n, 1)) (hn : inR n)
    (k : Rn p l e R s m args below meth c A D cI cZ Q nL ads0 n0 n1 (pc + 1) L (.inl n :: st) S) : Rn p l e R s m args below meth c A D cI cZ Q nL ads0 n0 n1 pc L st S := by
  intro ads H locs ls cst hW hL hv
  obtain ⟨hx, hb, -⟩ := hC
  exact lv_iconst hx hb hd rfl (k ads H locs ls _ hW hL ⟨⟨hn, rfl⟩, hv⟩)
theorem rn_bipush {n : Int} (hC : Cx on cc nL init p s m args meth c A D cI cZ) (hd : decode cc pc = .ok (.bipush n, 2)) (hn : inR n) (hv8 : (Int8.ofInt n).toInt32 = Int32.ofInt n)
    (k : Rn p l e R s m args below meth c A D cI cZ Q nL ads0 n0 n1 (pc + 2) L (.inl n :: st) S) : Rn p l e R s m args below meth c A D cI cZ Q nL ads0 n0 n1 pc L st S := by
  intro ads H locs ls cst hW hL hv
  obtain ⟨hx, hb, -⟩ := hC
  exact lv_bipush hx hb hd hv8 (k ads H locs ls _ hW hL ⟨⟨hn, rfl⟩, hv⟩)
theorem rn_sipush {n : Int} (hC : Cx on cc nL init p s m args meth c A D cI cZ) (hd : decode cc pc = .ok (.sipush n, 3)) (hn : inR n) (hv8 : (Int16.ofInt n).toInt32 = Int32.ofInt n)
    (k : Rn p l e R s m args below meth c A D cI cZ Q nL ads0 n0 n1 (pc + 3) L (.inl n :: st) S) : Rn p l e R s m args below meth c A D cI cZ Q nL ads0 n0 n1 pc L st S := by
  intro ads H locs ls cst hW hL hv
  obtain ⟨hx, hb, -⟩ := hC
  exact lv_sipush hx hb hd hv8 (k ads H locs ls _ hW hL ⟨⟨hn, rfl⟩, hv⟩)
theorem rn_ldc {n : Int} {idx : Nat} (hC : Cx on cc nL init p s m args meth c A D cI cZ) (hd : decode cc pc = .ok (.ldc idx, 2)) (hk : (on, idx, n) ∈ klk) (hn : inR n)
    (k : Rn p l e R s m args below meth c A D cI cZ Q nL ads0 n0 n1 (pc + 2) L (.inl n :: st) S) : Rn p l e R s m args below meth c A D cI cZ Q nL ads0 n0 n1 pc L st S := by
  intro ads H locs ls cst hW hL hv
  obtain ⟨hx, hb, -, hown, hts, -⟩ := hC
  exact lv_ldc hx hb hown (hts _ (klk_ok _ hk)) hd (k ads H locs ls _ hW hL ⟨⟨hn, rfl⟩, hv⟩)
theorem rn_ldcw {n : Int} {idx : Nat} (hC : Cx on cc nL init p s m args meth c A D cI cZ) (hd : decode cc pc = .ok (.ldc_w idx, 3)) (hk : (on, idx, n) ∈ klk) (hn : inR n)
    (k : Rn p l e R s m args below meth c A D cI cZ Q nL ads0 n0 n1 (pc + 3) L (.inl n :: st) S) : Rn p l e R s m args below meth c A D cI cZ Q nL ads0 n0 n1 pc L st S := by
  intro ads H locs ls cst hW hL hv
  obtain ⟨hx, hb, -, hown, hts, -⟩ := hC
  exact lv_ldcw hx hb hown (hts _ (klk_ok _ hk)) hd (k ads H locs ls _ hW hL ⟨⟨hn, rfl⟩, hv⟩)
/-- arithmetic -/
theorem i32_and (x y : Int) : Int32.ofInt x &&& Int32.ofInt y = Int32.ofInt (jand x y) := (Int32.ofInt_toInt _).symm
theorem i32_or (x y : Int) : Int32.ofInt x ||| Int32.ofInt y = Int32.ofInt (jor x y) := (Int32.ofInt_toInt _).symm
theorem i32_xor (x y : Int) : Int32.ofInt x ^^^ Int32.ofInt y = Int32.ofInt (jxor x y) := (Int32.ofInt_toInt _).symm
theorem i32_shl (x y : Int) : Int32.ofInt x <<< (Int32.ofInt y &&& 31) = Int32.ofInt (jshl x y) := (Int32.ofInt_toInt _).symm
theorem i32_shr (x y : Int) : Int32.ofInt x >>> (Int32.ofInt y &&& 31) = Int32.ofInt (jshr x y) := (Int32.ofInt_toInt _).symm
theorem i32_ushr (x y : Int) : ((Int32.ofInt x).toUInt32 >>> ((Int32.ofInt y).toUInt32 &&& Int32.toUInt32 31)).toInt32 = Int32.ofInt (jushr x y) := (Int32.ofInt_toInt _).symm
theorem i32_rem {x y : Int} (hx : inR x) (hy : inR y) : Int32.ofInt x - Int32.ofInt x / Int32.ofInt y * Int32.ofInt y = Int32.ofInt (jrem x y) := by
  rw [i32_div hx hy]
  unfold jdiv jrem
  rw [i32_wrap, ← Int32.ofInt_mul, ← Int32.ofInt_sub]
  congr 1
  have h := Int.mul_tdiv_add_tmod x y
  rw [Int.mul_comm] at h
  omega
theorem rn_bin {op : Instr} {f : Int → Int → Int} (hC : Cx on cc nL init p s m args meth c A D cI cZ) {x y : Int}
    (hop : ∀ (H : Heap) (locs : List Loc) (cells slots : Nat) (ls : Array Slot) (rest : List Value), inR x → inR y → W p l e R s m args below meth c H locs cells slots Q (F0 m (pc + 1) ls (.int (Int32.ofInt (f x y)) :: rest)) → W p l e R s m args below meth c H locs cells slots Q (F0 m pc ls (.int (Int32.ofInt y) :: .int (Int32.ofInt x) :: rest)))
    (hf : inR x → inR y → inR (f x y))
    (k : Rn p l e R s m args below meth c A D cI cZ Q nL ads0 n0 n1 (pc + 1) L (.inl (f x y) :: st) S) : Rn p l e R s m args below meth c A D cI cZ Q nL ads0 n0 n1 pc L (.inl y :: .inl x :: st) S := by
  intro ads H locs ls cst hW hL hv
  match cst, hv with
  | cy :: cx :: cst, hv =>
    obtain ⟨hy, rfl⟩ := vr_int hv.1
    obtain ⟨hx, rfl⟩ := vr_int hv.2.1
    exact hop H locs _ _ ls cst hx hy (k ads H locs ls _ hW hL ⟨⟨hf hx hy, rfl⟩, hv.2.2⟩)
  | [cy], hv => exact hv.2.elim
theorem rn_iadd {x y : Int} (hC : Cx on cc nL init p s m args meth c A D cI cZ) (hd : decode cc pc = .ok (.iadd, 1))
    (k : Rn p l e R s m args below meth c A D cI cZ Q nL ads0 n0 n1 (pc + 1) L (.inl (wrap (x + y)) :: st) S) : Rn p l e R s m args below meth c A D cI cZ Q nL ads0 n0 n1 pc L (.inl y :: .inl x :: st) S :=
  rn_bin (op := .iadd) (f := fun x y => wrap (x + y)) hC (fun H locs cells slots ls rest hx hy w => lv_iadd hC.1 hC.2.1 hd (by rw [← Int32.ofInt_add, ← i32_wrap]; exact w)) (fun _ _ => wrap_in _) k
theorem rn_isub {x y : Int} (hC : Cx on cc nL init p s m args meth c A D cI cZ) (hd : decode cc pc = .ok (.isub, 1))
    (k : Rn p l e R s m args below meth c A D cI cZ Q nL ads0 n0 n1 (pc + 1) L (.inl (wrap (x - y)) :: st) S) : Rn p l e R s m args below meth c A D cI cZ Q nL ads0 n0 n1 pc L (.inl y :: .inl x :: st) S :=
  rn_bin (op := .isub) (f := fun x y => wrap (x - y)) hC (fun H locs cells slots ls rest hx hy w => lv_isub hC.1 hC.2.1 hd (by rw [← Int32.ofInt_sub, ← i32_wrap]; exact w)) (fun _ _ => wrap_in _) k
theorem rn_imul {x y : Int} (hC : Cx on cc nL init p s m args meth c A D cI cZ) (hd : decode cc pc = .ok (.imul, 1))
    (k : Rn p l e R s m args below meth c A D cI cZ Q nL ads0 n0 n1 (pc + 1) L (.inl (wrap (x * y)) :: st) S) : Rn p l e R s m args below meth c A D cI cZ Q nL ads0 n0 n1 pc L (.inl y :: .inl x :: st) S :=
  rn_bin (op := .imul) (f := fun x y => wrap (x * y)) hC (fun H locs cells slots ls rest hx hy w => lv_imul hC.1 hC.2.1 hd (by rw [← Int32.ofInt_mul, ← i32_wrap]; exact w)) (fun _ _ => wrap_in _) k
theorem i32_ne0 {y : Int} (hy : inR y) (h : ¬ y = 0) : ¬ Int32.ofInt y = 0 := fun h2 => h (i32_inj hy in0 (h2.trans i32_zero.symm))
theorem rn_idiv {x y : Int} (hC : Cx on cc nL init p s m args meth c A D cI cZ) (hd : decode cc pc = .ok (.idiv, 1)) (hne : ¬ y = 0)
    (k : Rn p l e R s m args below meth c A D cI cZ Q nL ads0 n0 n1 (pc + 1) L (.inl (jdiv x y) :: st) S) : Rn p l e R s m args below meth c A D cI cZ Q nL ads0 n0 n1 pc L (.inl y :: .inl x :: st) S :=
  rn_bin (op := .idiv) (f := jdiv) hC (fun H locs cells slots ls rest hx hy w => lv_idiv hC.1 hC.2.1 hd (i32_ne0 hy hne) (by rw [i32_div hx hy]; exact w)) (fun _ _ => wrap_in _) k
theorem rn_irem {x y : Int} (hC : Cx on cc nL init p s m args meth c A D cI cZ) (hd : decode cc pc = .ok (.irem, 1)) (hne : ¬ y = 0)
    (k : Rn p l e R s m args below meth c A D cI cZ Q nL ads0 n0 n1 (pc + 1) L (.inl (jrem x y) :: st) S) : Rn p l e R s m args below meth c A D cI cZ Q nL ads0 n0 n1 pc L (.inl y :: .inl x :: st) S :=
  rn_bin (op := .irem) (f := jrem) hC (fun H locs cells slots ls rest hx hy w => lv_irem hC.1 hC.2.1 hd (i32_ne0 hy hne) (by rw [i32_rem hx hy]; exact w)) (fun hx _ => jrem_in hx) k
theorem rn_iand {x y : Int} (hC : Cx on cc nL init p s m args meth c A D cI cZ) (hd : decode cc pc = .ok (.iand, 1))
    (k : Rn p l e R s m args below meth c A D cI cZ Q nL ads0 n0 n1 (pc + 1) L (.inl (jand x y) :: st) S) : Rn p l e R s m args below meth c A D cI cZ Q nL ads0 n0 n1 pc L (.inl y :: .inl x :: st) S :=
  rn_bin (op := .iand) (f := jand) hC (fun H locs cells slots ls rest hx hy w => lv_iand hC.1 hC.2.1 hd (by rw [i32_and]; exact w)) (fun _ _ => i32_toInt_in _) k
theorem rn_ior {x y : Int} (hC : Cx on cc nL init p s m args meth c A D cI cZ) (hd : decode cc pc = .ok (.ior, 1))
    (k : Rn p l e R s m args below meth c A D cI cZ Q nL ads0 n0 n1 (pc + 1) L (.inl (jor x y) :: st) S) : Rn p l e R s m args below meth c A D cI cZ Q nL ads0 n0 n1 pc L (.inl y :: .inl x :: st) S :=
  rn_bin (op := .ior) (f := jor) hC (fun H locs cells slots ls rest hx hy w => lv_ior hC.1 hC.2.1 hd (by rw [i32_or]; exact w)) (fun _ _ => i32_toInt_in _) k
theorem rn_ixor {x y : Int} (hC : Cx on cc nL init p s m args meth c A D cI cZ) (hd : decode cc pc = .ok (.ixor, 1))
    (k : Rn p l e R s m args below meth c A D cI cZ Q nL ads0 n0 n1 (pc + 1) L (.inl (jxor x y) :: st) S) : Rn p l e R s m args below meth c A D cI cZ Q nL ads0 n0 n1 pc L (.inl y :: .inl x :: st) S :=
  rn_bin (op := .ixor) (f := jxor) hC (fun H locs cells slots ls rest hx hy w => lv_ixor hC.1 hC.2.1 hd (by rw [i32_xor]; exact w)) (fun _ _ => i32_toInt_in _) k
theorem rn_ishl {x y : Int} (hC : Cx on cc nL init p s m args meth c A D cI cZ) (hd : decode cc pc = .ok (.ishl, 1))
    (k : Rn p l e R s m args below meth c A D cI cZ Q nL ads0 n0 n1 (pc + 1) L (.inl (jshl x y) :: st) S) : Rn p l e R s m args below meth c A D cI cZ Q nL ads0 n0 n1 pc L (.inl y :: .inl x :: st) S :=
  rn_bin (op := .ishl) (f := jshl) hC (fun H locs cells slots ls rest hx hy w => lv_ishl hC.1 hC.2.1 hd (by rw [i32_shl]; exact w)) (fun _ _ => i32_toInt_in _) k
theorem rn_ishr {x y : Int} (hC : Cx on cc nL init p s m args meth c A D cI cZ) (hd : decode cc pc = .ok (.ishr, 1))
    (k : Rn p l e R s m args below meth c A D cI cZ Q nL ads0 n0 n1 (pc + 1) L (.inl (jshr x y) :: st) S) : Rn p l e R s m args below meth c A D cI cZ Q nL ads0 n0 n1 pc L (.inl y :: .inl x :: st) S :=
  rn_bin (op := .ishr) (f := jshr) hC (fun H locs cells slots ls rest hx hy w => lv_ishr hC.1 hC.2.1 hd (by rw [i32_shr]; exact w)) (fun _ _ => i32_toInt_in _) k
theorem rn_iushr {x y : Int} (hC : Cx on cc nL init p s m args meth c A D cI cZ) (hd : decode cc pc = .ok (.iushr, 1))
    (k : Rn p l e R s m args below meth c A D cI cZ Q nL ads0 n0 n1 (pc + 1) L (.inl (jushr x y) :: st) S) : Rn p l e R s m args below meth c A D cI cZ Q nL ads0 n0 n1 pc L (.inl y :: .inl x :: st) S :=
  rn_bin (op := .iushr) (f := jushr) hC (fun H locs cells slots ls rest hx hy w => lv_iushr hC.1 hC.2.1 hd (i32_ushr x y) w) (fun _ _ => i32_toInt_in _) k
/-- the stack -/
theorem rn_dup {v : AV} (hC : Cx on cc nL init p s m args meth c A D cI cZ) (hd : decode cc pc = .ok (.dup, 1))
    (k : Rn p l e R s m args below meth c A D cI cZ Q nL ads0 n0 n1 (pc + 1) L (v :: v :: st) S) : Rn p l e R s m args below meth c A D cI cZ Q nL ads0 n0 n1 pc L (v :: st) S := by
  intro ads H locs ls cst hW hL hv
  match cst, hv with
  | cv :: cst, hv => exact lv_dup hC.1 hC.2.1 hd (vr_cat hv.1) (k ads H locs ls _ hW hL ⟨hv.1, hv.1, hv.2⟩)
theorem rn_pop {v : AV} (hC : Cx on cc nL init p s m args meth c A D cI cZ) (hd : decode cc pc = .ok (.pop, 1))
    (k : Rn p l e R s m args below meth c A D cI cZ Q nL ads0 n0 n1 (pc + 1) L st S) : Rn p l e R s m args below meth c A D cI cZ Q nL ads0 n0 n1 pc L (v :: st) S := by
  intro ads H locs ls cst hW hL hv
  match cst, hv with
  | cv :: cst, hv => exact lv_pop hC.1 hC.2.1 hd (vr_cat hv.1) (k ads H locs ls _ hW hL hv.2)
theorem rn_dup_x1 {v w : AV} (hC : Cx on cc nL init p s m args meth c A D cI cZ) (hd : decode cc pc = .ok (.dup_x1, 1))
    (k : Rn p l e R s m args below meth c A D cI cZ Q nL ads0 n0 n1 (pc + 1) L (v :: w :: v :: st) S) : Rn p l e R s m args below meth c A D cI cZ Q nL ads0 n0 n1 pc L (v :: w :: st) S := by
  intro ads H locs ls cst hW hL hv
  match cst, hv with
  | cv :: cw :: cst, hv => exact lv_dup_x1 hC.1 hC.2.1 hd (vr_cat hv.1) (vr_cat hv.2.1) (k ads H locs ls _ hW hL ⟨hv.1, hv.2.1, hv.1, hv.2.2⟩)
  | [cy], hv => exact hv.2.elim
theorem rn_dup2 {v w : AV} (hC : Cx on cc nL init p s m args meth c A D cI cZ) (hd : decode cc pc = .ok (.dup2, 1))
    (k : Rn p l e R s m args below meth c A D cI cZ Q nL ads0 n0 n1 (pc + 1) L (v :: w :: v :: w :: st) S) : Rn p l e R s m args below meth c A D cI cZ Q nL ads0 n0 n1 pc L (v :: w :: st) S := by
  intro ads H locs ls cst hW hL hv
  match cst, hv with
  | cv :: cw :: cst, hv => exact lv_dup2_11 hC.1 hC.2.1 hd (vr_cat hv.1) (vr_cat hv.2.1) (k ads H locs ls _ hW hL ⟨hv.1, hv.2.1, hv.1, hv.2⟩)
  | [cy], hv => exact hv.2.elim
end RN
