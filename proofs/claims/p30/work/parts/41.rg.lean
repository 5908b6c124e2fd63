/-! straight steps over any world -/
section RG
variable {p : Program} {l : Launch} {e : Env} {R : Room} {s : State} {m : MethodId} {args : Array Value} {below : List Frame} {meth : Method} {c : Code} {Q : State → Prop}
def Rg (p : Program) (l : Launch) (e : Env) (R : Room) (s : State) (m : MethodId) (args : Array Value) (below : List Frame) (meth : Method) (c : Code) (Pw : List Nat → Heap → List Loc → Prop) (kc ks : Nat) (Q : State → Prop) (nL : Nat) (pc : Nat) (L : List (Option AV)) (st : List AV) : Prop :=
  ∀ (ads : List Nat) (H : Heap) (locs : List Loc) (ls : Array Slot) (cst : List Value), Pw ads H locs → lrs ads nL L ls → vrs ads st cst → W p l e R s m args below meth c H locs kc ks Q (F0 m pc ls cst)
variable {cc : ByteArray} {nL : Nat} {Pw : List Nat → Heap → List Loc → Prop} {kc ks pc : Nat} {L : List (Option AV)} {st : List AV}
theorem rg_iload {i : Nat} {x : Int} (hC : p.tables.exec = Jvm.exec ∧ c.code = cc) (hd : decode cc pc = .ok (.iload i, 2)) (hl : L[i]? = some (some (.inl x)))
    (k : Rg p l e R s m args below meth c Pw kc ks Q nL (pc + 2) L (.inl x :: st)) : Rg p l e R s m args below meth c Pw kc ks Q nL pc L st := by
  intro ads H locs ls cst hW hL hv
  obtain ⟨hx, hb⟩ := hC
  obtain ⟨cv, h1, h2⟩ := hL.2.2.2 i _ hl
  obtain ⟨h3, rfl⟩ := vr_int h1
  exact lv_iload hx hb hd h2 (k ads H locs ls _ hW hL ⟨h1, hv⟩)
theorem rg_iload_n {i : Fin 4} {x : Int} (hC : p.tables.exec = Jvm.exec ∧ c.code = cc) (hd : decode cc pc = .ok (.iload_n i, 1)) (hl : L[i.val]? = some (some (.inl x)))
    (k : Rg p l e R s m args below meth c Pw kc ks Q nL (pc + 1) L (.inl x :: st)) : Rg p l e R s m args below meth c Pw kc ks Q nL pc L st := by
  intro ads H locs ls cst hW hL hv
  obtain ⟨hx, hb⟩ := hC
  obtain ⟨cv, h1, h2⟩ := hL.2.2.2 i.val _ hl
  obtain ⟨h3, rfl⟩ := vr_int h1
  exact lv_iload_n hx hb hd rfl h2 (k ads H locs ls _ hW hL ⟨h1, hv⟩)
theorem rg_aload {i : Nat} {x : Nat} (hC : p.tables.exec = Jvm.exec ∧ c.code = cc) (hd : decode cc pc = .ok (.aload i, 2)) (hl : L[i]? = some (some (.inr x)))
    (k : Rg p l e R s m args below meth c Pw kc ks Q nL (pc + 2) L (.inr x :: st)) : Rg p l e R s m args below meth c Pw kc ks Q nL pc L st := by
  intro ads H locs ls cst hW hL hv
  obtain ⟨hx, hb⟩ := hC
  obtain ⟨cv, h1, h2⟩ := hL.2.2.2 i _ hl
  obtain ⟨a, h3, rfl⟩ := id h1
  exact lv_aload hx hb hd h2 (k ads H locs ls _ hW hL ⟨h1, hv⟩)
theorem rg_aload_n {i : Fin 4} {x : Nat} (hC : p.tables.exec = Jvm.exec ∧ c.code = cc) (hd : decode cc pc = .ok (.aload_n i, 1)) (hl : L[i.val]? = some (some (.inr x)))
    (k : Rg p l e R s m args below meth c Pw kc ks Q nL (pc + 1) L (.inr x :: st)) : Rg p l e R s m args below meth c Pw kc ks Q nL pc L st := by
  intro ads H locs ls cst hW hL hv
  obtain ⟨hx, hb⟩ := hC
  obtain ⟨cv, h1, h2⟩ := hL.2.2.2 i.val _ hl
  obtain ⟨a, h3, rfl⟩ := id h1
  exact lv_aload_n hx hb hd rfl h2 (k ads H locs ls _ hW hL ⟨h1, hv⟩)
theorem rg_istore {i : Nat} {x : Int} (hC : p.tables.exec = Jvm.exec ∧ c.code = cc) (hd : decode cc pc = .ok (.istore i, 2)) (hl : i < L.length)
    (k : Rg p l e R s m args below meth c Pw kc ks Q nL (pc + 2) (L.set i (some (.inl x))) st) : Rg p l e R s m args below meth c Pw kc ks Q nL pc L (.inl x :: st) := by
  intro ads H locs ls cst hW hL hv
  obtain ⟨hx, hb⟩ := hC
  match cst, hv with
  | cv :: cst, hv =>
    obtain ⟨h3, rfl⟩ := vr_int hv.1
    exact lv_istore hx hb hd (allv_has hL) (Nat.lt_of_lt_of_le hl hL.2.1) rfl (fun ls' h' => k ads H locs ls' _ hW (lrs_put hL hv.1 h') hv.2)
theorem rg_istore_n {i : Fin 4} {x : Int} (hC : p.tables.exec = Jvm.exec ∧ c.code = cc) (hd : decode cc pc = .ok (.istore_n i, 1)) (hl : i.val < L.length)
    (k : Rg p l e R s m args below meth c Pw kc ks Q nL (pc + 1) (L.set i.val (some (.inl x))) st) : Rg p l e R s m args below meth c Pw kc ks Q nL pc L (.inl x :: st) := by
  intro ads H locs ls cst hW hL hv
  obtain ⟨hx, hb⟩ := hC
  match cst, hv with
  | cv :: cst, hv =>
    obtain ⟨h3, rfl⟩ := vr_int hv.1
    exact lv_istore_n hx hb hd rfl (allv_has hL) (Nat.lt_of_lt_of_le hl hL.2.1) rfl (fun ls' h' => k ads H locs ls' _ hW (lrs_put hL hv.1 h') hv.2)
theorem rg_astore {i : Nat} {x : Nat} (hC : p.tables.exec = Jvm.exec ∧ c.code = cc) (hd : decode cc pc = .ok (.astore i, 2)) (hl : i < L.length)
    (k : Rg p l e R s m args below meth c Pw kc ks Q nL (pc + 2) (L.set i (some (.inr x))) st) : Rg p l e R s m args below meth c Pw kc ks Q nL pc L (.inr x :: st) := by
  intro ads H locs ls cst hW hL hv
  obtain ⟨hx, hb⟩ := hC
  match cst, hv with
  | cv :: cst, hv =>
    obtain ⟨a, h3, rfl⟩ := id hv.1
    exact lv_astore hx hb hd (allv_has hL) (Nat.lt_of_lt_of_le hl hL.2.1) rfl (fun ls' h' => k ads H locs ls' _ hW (lrs_put hL hv.1 h') hv.2)
theorem rg_astore_n {i : Fin 4} {x : Nat} (hC : p.tables.exec = Jvm.exec ∧ c.code = cc) (hd : decode cc pc = .ok (.astore_n i, 1)) (hl : i.val < L.length)
    (k : Rg p l e R s m args below meth c Pw kc ks Q nL (pc + 1) (L.set i.val (some (.inr x))) st) : Rg p l e R s m args below meth c Pw kc ks Q nL pc L (.inr x :: st) := by
  intro ads H locs ls cst hW hL hv
  obtain ⟨hx, hb⟩ := hC
  match cst, hv with
  | cv :: cst, hv =>
    obtain ⟨a, h3, rfl⟩ := id hv.1
    exact lv_astore_n hx hb hd rfl (allv_has hL) (Nat.lt_of_lt_of_le hl hL.2.1) rfl (fun ls' h' => k ads H locs ls' _ hW (lrs_put hL hv.1 h') hv.2)
theorem rg_iinc {i : Nat} {n x : Int} (hC : p.tables.exec = Jvm.exec ∧ c.code = cc) (hd : decode cc pc = .ok (.iinc i n, 3)) (hl : L[i]? = some (some (.inl x)))
    (k : Rg p l e R s m args below meth c Pw kc ks Q nL (pc + 3) (L.set i (some (.inl (wrap (x + n))))) st) : Rg p l e R s m args below meth c Pw kc ks Q nL pc L st := by
  intro ads H locs ls cst hW hL hv
  obtain ⟨hx, hb⟩ := hC
  obtain ⟨cv, h1, h2⟩ := hL.2.2.2 i _ hl
  obtain ⟨h3, rfl⟩ := vr_int h1
  obtain ⟨j, hj⟩ := List.getElem?_of_mem (allv_in.mpr h2)
  have hlt : i < L.length := (List.getElem?_eq_some_iff.mp hl).1
  have hw : vr ads (.inl (wrap (x + n))) (.int (Int32.ofInt x + Int32.ofInt n)) := ⟨wrap_in _, by rw [i32_wrap, Int32.ofInt_add]⟩
  exact lv_iinc hx hb hd (allv_has hL) hj rfl (Nat.lt_of_lt_of_le hlt hL.2.1) rfl (fun ls' h' => k ads H locs ls' _ hW (lrs_put hL hw h') hv)
theorem rg_iconst {n : Int} (hC : p.tables.exec = Jvm.exec ∧ c.code = cc) (hd : decode cc pc = .ok (.iconst n, 1)) (hn : inR n)
    (k : Rg p l e R s m args below meth c Pw kc ks Q nL (pc + 1) L (.inl n :: st)) : Rg p l e R s m args below meth c Pw kc ks Q nL pc L st := by
  intro ads H locs ls cst hW hL hv
  obtain ⟨hx, hb⟩ := hC
  exact lv_iconst hx hb hd rfl (k ads H locs ls _ hW hL ⟨⟨hn, rfl⟩, hv⟩)
theorem rg_bipush {n : Int} (hC : p.tables.exec = Jvm.exec ∧ c.code = cc) (hd : decode cc pc = .ok (.bipush n, 2)) (hn : inR n) (hv8 : (Int8.ofInt n).toInt32 = Int32.ofInt n)
    (k : Rg p l e R s m args below meth c Pw kc ks Q nL (pc + 2) L (.inl n :: st)) : Rg p l e R s m args below meth c Pw kc ks Q nL pc L st := by
  intro ads H locs ls cst hW hL hv
  obtain ⟨hx, hb⟩ := hC
  exact lv_bipush hx hb hd hv8 (k ads H locs ls _ hW hL ⟨⟨hn, rfl⟩, hv⟩)
theorem rg_bin {op : Instr} {f : Int → Int → Int} (hC : p.tables.exec = Jvm.exec ∧ c.code = cc) {x y : Int}
    (hop : ∀ (H : Heap) (locs : List Loc) (cells slots : Nat) (ls : Array Slot) (rest : List Value), inR x → inR y → W p l e R s m args below meth c H locs cells slots Q (F0 m (pc + 1) ls (.int (Int32.ofInt (f x y)) :: rest)) → W p l e R s m args below meth c H locs cells slots Q (F0 m pc ls (.int (Int32.ofInt y) :: .int (Int32.ofInt x) :: rest)))
    (hf : inR x → inR y → inR (f x y))
    (k : Rg p l e R s m args below meth c Pw kc ks Q nL (pc + 1) L (.inl (f x y) :: st)) : Rg p l e R s m args below meth c Pw kc ks Q nL pc L (.inl y :: .inl x :: st) := by
  intro ads H locs ls cst hW hL hv
  match cst, hv with
  | cy :: cx :: cst, hv =>
    obtain ⟨hy, rfl⟩ := vr_int hv.1
    obtain ⟨hx, rfl⟩ := vr_int hv.2.1
    exact hop H locs _ _ ls cst hx hy (k ads H locs ls _ hW hL ⟨⟨hf hx hy, rfl⟩, hv.2.2⟩)
  | [cy], hv => exact hv.2.elim
theorem rg_iadd {x y : Int} (hC : p.tables.exec = Jvm.exec ∧ c.code = cc) (hd : decode cc pc = .ok (.iadd, 1))
    (k : Rg p l e R s m args below meth c Pw kc ks Q nL (pc + 1) L (.inl (wrap (x + y)) :: st)) : Rg p l e R s m args below meth c Pw kc ks Q nL pc L (.inl y :: .inl x :: st) :=
  rg_bin (op := .iadd) (f := fun x y => wrap (x + y)) hC (fun H locs cells slots ls rest hx hy w => lv_iadd hC.1 hC.2 hd (by rw [← Int32.ofInt_add, ← i32_wrap]; exact w)) (fun _ _ => wrap_in _) k
theorem rg_isub {x y : Int} (hC : p.tables.exec = Jvm.exec ∧ c.code = cc) (hd : decode cc pc = .ok (.isub, 1))
    (k : Rg p l e R s m args below meth c Pw kc ks Q nL (pc + 1) L (.inl (wrap (x - y)) :: st)) : Rg p l e R s m args below meth c Pw kc ks Q nL pc L (.inl y :: .inl x :: st) :=
  rg_bin (op := .isub) (f := fun x y => wrap (x - y)) hC (fun H locs cells slots ls rest hx hy w => lv_isub hC.1 hC.2 hd (by rw [← Int32.ofInt_sub, ← i32_wrap]; exact w)) (fun _ _ => wrap_in _) k
theorem rg_iand {x y : Int} (hC : p.tables.exec = Jvm.exec ∧ c.code = cc) (hd : decode cc pc = .ok (.iand, 1))
    (k : Rg p l e R s m args below meth c Pw kc ks Q nL (pc + 1) L (.inl (jand x y) :: st)) : Rg p l e R s m args below meth c Pw kc ks Q nL pc L (.inl y :: .inl x :: st) :=
  rg_bin (op := .iand) (f := jand) hC (fun H locs cells slots ls rest hx hy w => lv_iand hC.1 hC.2 hd (by rw [i32_and]; exact w)) (fun _ _ => i32_toInt_in _) k
theorem rg_dup {v : AV} (hC : p.tables.exec = Jvm.exec ∧ c.code = cc) (hd : decode cc pc = .ok (.dup, 1))
    (k : Rg p l e R s m args below meth c Pw kc ks Q nL (pc + 1) L (v :: v :: st)) : Rg p l e R s m args below meth c Pw kc ks Q nL pc L (v :: st) := by
  intro ads H locs ls cst hW hL hv
  match cst, hv with
  | cv :: cst, hv => exact lv_dup hC.1 hC.2 hd (vr_cat hv.1) (k ads H locs ls _ hW hL ⟨hv.1, hv.1, hv.2⟩)
theorem rg_if_eq {x : Int} {off : Int} {tgt : Nat} (hC : p.tables.exec = Jvm.exec ∧ c.code = cc) (hd : decode cc pc = .ok (.ifCond .eq off, 3)) (ht : (pc : Int) + off = (tgt : Int))
    (kt : x = 0 → Rg p l e R s m args below meth c Pw kc ks Q nL tgt L st) (kf : ¬ (x = 0) → Rg p l e R s m args below meth c Pw kc ks Q nL (pc + 3) L st) : Rg p l e R s m args below meth c Pw kc ks Q nL pc L (.inl x :: st) := by
  intro ads H locs ls cst hW hL hv
  obtain ⟨hx, hb⟩ := hC
  match cst, hv with
  | cv :: cst, hv =>
    obtain ⟨hxr, rfl⟩ := vr_int hv.1
    have hyr := in0
    have hi := i32_eq hxr hyr
    rw [i32_zero] at hi
    exact lv_if_eq hx hb hd ht (fun h => kt (hi.mp h) ads H locs ls _ hW hL hv.2) (fun h => kf (fun h2 => h (hi.mpr h2)) ads H locs ls _ hW hL hv.2)
theorem rg_if_ne {x : Int} {off : Int} {tgt : Nat} (hC : p.tables.exec = Jvm.exec ∧ c.code = cc) (hd : decode cc pc = .ok (.ifCond .ne off, 3)) (ht : (pc : Int) + off = (tgt : Int))
    (kt : ¬ x = 0 → Rg p l e R s m args below meth c Pw kc ks Q nL tgt L st) (kf : x = 0 → Rg p l e R s m args below meth c Pw kc ks Q nL (pc + 3) L st) : Rg p l e R s m args below meth c Pw kc ks Q nL pc L (.inl x :: st) := by
  intro ads H locs ls cst hW hL hv
  obtain ⟨hx, hb⟩ := hC
  match cst, hv with
  | cv :: cst, hv =>
    obtain ⟨hxr, rfl⟩ := vr_int hv.1
    have hyr := in0
    have hi := i32_eq hxr hyr
    rw [i32_zero] at hi
    exact lv_if_ne hx hb hd ht (fun h => kt (fun h2 => h (hi.mpr h2)) ads H locs ls _ hW hL hv.2) (fun h => kf (hi.mp h) ads H locs ls _ hW hL hv.2)
theorem rg_icmp_eq {x y : Int} {off : Int} {tgt : Nat} (hC : p.tables.exec = Jvm.exec ∧ c.code = cc) (hd : decode cc pc = .ok (.if_icmp .eq off, 3)) (ht : (pc : Int) + off = (tgt : Int))
    (kt : x = y → Rg p l e R s m args below meth c Pw kc ks Q nL tgt L st) (kf : ¬ (x = y) → Rg p l e R s m args below meth c Pw kc ks Q nL (pc + 3) L st) : Rg p l e R s m args below meth c Pw kc ks Q nL pc L (.inl y :: .inl x :: st) := by
  intro ads H locs ls cst hW hL hv
  obtain ⟨hx, hb⟩ := hC
  match cst, hv with
  | cw :: cv :: cst, hv =>
    obtain ⟨hyr, rfl⟩ := vr_int hv.1
    obtain ⟨hxr, rfl⟩ := vr_int hv.2.1
    have hi := i32_eq hxr hyr
    exact lv_icmp_eq hx hb hd ht (fun h => kt (hi.mp h) ads H locs ls _ hW hL hv.2.2) (fun h => kf (fun h2 => h (hi.mpr h2)) ads H locs ls _ hW hL hv.2.2)
  | [cy], hv => exact hv.2.elim
theorem rg_icmp_gt {x y : Int} {off : Int} {tgt : Nat} (hC : p.tables.exec = Jvm.exec ∧ c.code = cc) (hd : decode cc pc = .ok (.if_icmp .gt off, 3)) (ht : (pc : Int) + off = (tgt : Int))
    (kt : y < x → Rg p l e R s m args below meth c Pw kc ks Q nL tgt L st) (kf : ¬ (y < x) → Rg p l e R s m args below meth c Pw kc ks Q nL (pc + 3) L st) : Rg p l e R s m args below meth c Pw kc ks Q nL pc L (.inl y :: .inl x :: st) := by
  intro ads H locs ls cst hW hL hv
  obtain ⟨hx, hb⟩ := hC
  match cst, hv with
  | cw :: cv :: cst, hv =>
    obtain ⟨hyr, rfl⟩ := vr_int hv.1
    obtain ⟨hxr, rfl⟩ := vr_int hv.2.1
    have hi := i32_lt hyr hxr
    exact lv_icmp_gt hx hb hd ht (fun h => kt (hi.mp h) ads H locs ls _ hW hL hv.2.2) (fun h => kf (fun h2 => h (hi.mpr h2)) ads H locs ls _ hW hL hv.2.2)
  | [cy], hv => exact hv.2.elim
theorem rg_goto {off : Int} {tgt : Nat} (hC : p.tables.exec = Jvm.exec ∧ c.code = cc) (hd : decode cc pc = .ok (.goto off, 3)) (ht : (pc : Int) + off = (tgt : Int))
    (k : Rg p l e R s m args below meth c Pw kc ks Q nL tgt L st) : Rg p l e R s m args below meth c Pw kc ks Q nL pc L st := by
  intro ads H locs ls cst hW hL hv
  exact lv_goto hC.1 hC.2 hd ht (k ads H locs ls _ hW hL hv)
theorem rg_tswIn {x dflt lo hi : Int} {offs : Array Int} {len : Nat} {off : Int} {tgt : Nat} (hC : p.tables.exec = Jvm.exec ∧ c.code = cc) (hd : decode cc pc = .ok (.tableswitch dflt lo hi offs, len)) (h1 : lo ≤ x) (h2 : x ≤ hi) (ho : offs[(x - lo).toNat]? = some off) (ht : (pc : Int) + off = (tgt : Int))
    (k : Rg p l e R s m args below meth c Pw kc ks Q nL tgt L st) : Rg p l e R s m args below meth c Pw kc ks Q nL pc L (.inl x :: st) := by
  intro ads H locs ls cst hW hL hv
  match cst, hv with
  | cv :: cst, hv =>
    obtain ⟨hxr, rfl⟩ := vr_int hv.1
    exact lv_tableIn hC.1 hC.2 hd (by rw [i32_ofInt_toInt hxr]; omega) (by rw [i32_ofInt_toInt hxr]; omega) (by rw [i32_ofInt_toInt hxr]; exact ho) ht (k ads H locs ls _ hW hL hv.2)
theorem rg_tswOut {x dflt lo hi : Int} {offs : Array Int} {len : Nat} {tgt : Nat} (hC : p.tables.exec = Jvm.exec ∧ c.code = cc) (hd : decode cc pc = .ok (.tableswitch dflt lo hi offs, len)) (h : x < lo ∨ hi < x) (ht : (pc : Int) + dflt = (tgt : Int))
    (k : Rg p l e R s m args below meth c Pw kc ks Q nL tgt L st) : Rg p l e R s m args below meth c Pw kc ks Q nL pc L (.inl x :: st) := by
  intro ads H locs ls cst hW hL hv
  match cst, hv with
  | cv :: cst, hv =>
    obtain ⟨hxr, rfl⟩ := vr_int hv.1
    exact lv_tableOut hC.1 hC.2 hd (by rw [i32_ofInt_toInt hxr]; exact h) ht (k ads H locs ls _ hW hL hv.2)
def exg (op : Instr) : Bool := match op with
  | .iload _ => true
  | .iload_n _ => true
  | .aload _ => true
  | .aload_n _ => true
  | .istore _ => true
  | .istore_n _ => true
  | .astore _ => true
  | .astore_n _ => true
  | .iinc _ _ => true
  | .iconst _ => true
  | .bipush _ => true
  | .iadd => true
  | .isub => true
  | .iand => true
  | .dup => true
  | _ => false
theorem ex1_g {op : Instr} {r : Nat × Nat × Int} {S S' : LSt} {L' : List (Option AV)} {st' : List AV} {on : Nat} (hC : p.tables.exec = Jvm.exec ∧ c.code = cc) (hd : decode cc pc = .ok (op, ilen op)) (hk : okR on op r = true) (hg : exg op = true) (hx : ex1 op r (L, st, S) = some (L', st', S'))
    (k : Rg p l e R s m args below meth c Pw kc ks Q nL (pc + ilen op) L' st') : Rg p l e R s m args below meth c Pw kc ks Q nL pc L st := by
  unfold ex1 at hx
  split at hx <;> first
    | (obtain ⟨L, st, S, x, h1, h2, h3⟩ := ldI_inv hx; cases h1; cases h3; exact rg_iload hC hd h2 k)
    | (obtain ⟨L, st, S, x, h1, h2, h3⟩ := ldI_inv hx; cases h1; cases h3; exact rg_iload_n hC hd h2 k)
    | (obtain ⟨L, st, S, x, h1, h2, h3⟩ := ldR_inv hx; cases h1; cases h3; exact rg_aload hC hd h2 k)
    | (obtain ⟨L, st, S, x, h1, h2, h3⟩ := ldR_inv hx; cases h1; cases h3; exact rg_aload_n hC hd h2 k)
    | (obtain ⟨L, x, st, S, h1, h2, h3⟩ := stI_inv hx; cases h1; cases h3; exact rg_istore hC hd h2 k)
    | (obtain ⟨L, x, st, S, h1, h2, h3⟩ := stI_inv hx; cases h1; cases h3; exact rg_istore_n hC hd h2 k)
    | (obtain ⟨L, x, st, S, h1, h2, h3⟩ := stR_inv hx; cases h1; cases h3; exact rg_astore hC hd h2 k)
    | (obtain ⟨L, x, st, S, h1, h2, h3⟩ := stR_inv hx; cases h1; cases h3; exact rg_astore_n hC hd h2 k)
    | (exact (Bool.false_ne_true hg).elim)
    | skip
  · split at hx
    rename_i h1
    cases h1
    split at hx
    · cases hx; exact rg_iinc hC hd (by assumption) k
    · cases hx
  · have h9 := psh_inv hx; cases h9; simp only [okR, decide_eq_true_eq] at hk; exact rg_iconst hC hd hk k
  · have h9 := psh_inv hx; cases h9; simp only [okR, Bool.and_eq_true, decide_eq_true_eq] at hk; exact rg_bipush hC hd hk.1 hk.2 k
  · obtain ⟨L, y, x, st, S, h1, h2⟩ := bi_inv hx; cases h1; cases h2; exact rg_iadd hC hd k
  · obtain ⟨L, y, x, st, S, h1, h2⟩ := bi_inv hx; cases h1; cases h2; exact rg_isub hC hd k
  · obtain ⟨L, y, x, st, S, h1, h2⟩ := bi_inv hx; cases h1; cases h2; exact rg_iand hC hd k
  · split at hx
    · rename_i h1
      cases h1
      cases hx; exact rg_dup hC hd k
    · cases hx
  · cases hx
theorem rg_ops {on : Nat} {S S' : LSt} : ∀ {ops : List OpR} {pc pc' : Nat} {L L' : List (Option AV)} {st st' : List AV}, (p.tables.exec = Jvm.exec ∧ c.code = cc) → (oks on cc pc ops = true ∧ plen pc ops = pc') → ops.all (fun q => exg q.1) = true → exs ops (L, st, S) = some (L', st', S') →
    Rg p l e R s m args below meth c Pw kc ks Q nL pc' L' st' → Rg p l e R s m args below meth c Pw kc ks Q nL pc L st := by
  intro ops
  induction ops generalizing S with
  | nil => intro pc pc' L L' st st' _ ho _ hx k; cases hx; obtain ⟨-, rfl⟩ := ho; exact k
  | cons q t ih =>
    intro pc pc' L L' st st' hC ho hg hx k
    obtain ⟨op, len, r⟩ := q
    obtain ⟨ho, hp⟩ := ho
    simp only [oks, Bool.and_eq_true, decide_eq_true_eq] at ho
    obtain ⟨⟨⟨h1, h2⟩, h3⟩, h4⟩ := ho
    subst h2
    simp only [List.all_cons, Bool.and_eq_true] at hg
    unfold exs at hx
    split at hx
    · rename_i C1 hx1
      obtain ⟨L1, st1, S1⟩ := C1
      exact ex1_g hC h1 h3 hg.1 hx1 (ih hC ⟨h4, hp⟩ hg.2 hx k)
    · cases hx
end RG
