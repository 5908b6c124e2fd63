/-! a straight stretch of instructions at once -/
abbrev Cfg : Type := List (Option AV) × List AV × LSt
abbrev OpR : Type := Instr × Nat × (Nat × Nat × Int)
def bi (f : Int → Int → Int) (C : Cfg) : Option Cfg := match C with
  | (L, .inl y :: .inl x :: st, S) => some (L, .inl (f x y) :: st, S)
  | _ => none
def ldI (i : Nat) (C : Cfg) : Option Cfg := match C with
  | (L, st, S) => match L[i]? with
    | some (some (.inl x)) => some (L, .inl x :: st, S)
    | _ => none
def ldR (i : Nat) (C : Cfg) : Option Cfg := match C with
  | (L, st, S) => match L[i]? with
    | some (some (.inr x)) => some (L, .inr x :: st, S)
    | _ => none
def stI (i : Nat) (C : Cfg) : Option Cfg := match C with
  | (L, .inl x :: st, S) => if i < L.length then some (L.set i (some (.inl x)), st, S) else none
  | _ => none
def stR (i : Nat) (C : Cfg) : Option Cfg := match C with
  | (L, .inr x :: st, S) => if i < L.length then some (L.set i (some (.inr x)), st, S) else none
  | _ => none
def psh (n : Int) (C : Cfg) : Option Cfg := match C with
  | (L, st, S) => some (L, .inl n :: st, S)
def gf (ci sl : Nat) (C : Cfg) : Option Cfg := match C with
  | (L, .inr k :: st, S) => match S.1[k]? with
    | some (c, q) => if c = ci then (match q[sl]? with
      | some 0 => some (L, .inl (S.2 k sl) :: st, S)
      | some 1 => none
      | some (x + 2) => if x < S.1.length then some (L, .inr x :: st, S) else none
      | none => none) else none
    | none => none
  | _ => none
def pf (ci sl : Nat) (C : Cfg) : Option Cfg := match C with
  | (L, .inl x :: .inr k :: st, S) => match S.1[k]? with
    | some (c, q) => if c = ci then (match q[sl]? with
      | some 0 => some (L, st, (S.1, up2 S.2 k sl x))
      | _ => none) else none
    | none => none
  | _ => none
def ex1 (op : Instr) (r : Nat × Nat × Int) (C : Cfg) : Option Cfg := match op with
  | .iload i => ldI i C
  | .iload_n i => ldI i.val C
  | .aload i => ldR i C
  | .aload_n i => ldR i.val C
  | .istore i => stI i C
  | .istore_n i => stI i.val C
  | .astore i => stR i C
  | .astore_n i => stR i.val C
  | .iinc i n => match C with
    | (L, st, S) => match L[i]? with
      | some (some (.inl x)) => some (L.set i (some (.inl (wrap (x + n)))), st, S)
      | _ => none
  | .iconst n => psh n C
  | .bipush n => psh n C
  | .sipush n => psh n C
  | .ldc _ => psh r.2.2 C
  | .ldc_w _ => psh r.2.2 C
  | .iadd => bi (fun x y => wrap (x + y)) C
  | .isub => bi (fun x y => wrap (x - y)) C
  | .imul => bi (fun x y => wrap (x * y)) C
  | .iand => bi jand C
  | .ior => bi jor C
  | .ixor => bi jxor C
  | .ishl => bi jshl C
  | .ishr => bi jshr C
  | .iushr => bi jushr C
  | .dup => match C with
    | (L, v :: st, S) => some (L, v :: v :: st, S)
    | _ => none
  | .pop => match C with
    | (L, _ :: st, S) => some (L, st, S)
    | _ => none
  | .dup_x1 => match C with
    | (L, v :: w :: st, S) => some (L, v :: w :: v :: st, S)
    | _ => none
  | .dup2 => match C with
    | (L, v :: w :: st, S) => some (L, v :: w :: v :: w :: st, S)
    | _ => none
  | .getfield _ => gf r.1 r.2.1 C
  | .putfield _ => pf r.1 r.2.1 C
  | _ => none
/-- what must hold of an instruction and its row -/
def okR (on : Nat) (op : Instr) (r : Nat × Nat × Int) : Bool := match op with
  | .iconst n => decide (-2147483648 ≤ n ∧ n ≤ 2147483647)
  | .bipush n => decide (-2147483648 ≤ n ∧ n ≤ 2147483647) && decide ((Int8.ofInt n).toInt32 = Int32.ofInt n)
  | .sipush n => decide (-2147483648 ≤ n ∧ n ≤ 2147483647) && decide ((Int16.ofInt n).toInt32 = Int32.ofInt n)
  | .ldc i => decide ((on, i, r.2.2) ∈ klk) && decide (-2147483648 ≤ r.2.2 ∧ r.2.2 ≤ 2147483647)
  | .ldc_w i => decide ((on, i, r.2.2) ∈ klk) && decide (-2147483648 ≤ r.2.2 ∧ r.2.2 ≤ 2147483647)
  | .getfield i => decide ((on, i, r.1, r.2.1) ∈ flk) && decide (r.1 < 12)
  | .putfield i => decide ((on, i, r.1, r.2.1) ∈ flk) && decide (r.1 < 12) && decide (ftc r.1 r.2.1 = 0) && decide (fFin r.1 r.2.1 = false)
  | _ => true
def ilen (op : Instr) : Nat := match op with
  | .iload _ => 2
  | .aload _ => 2
  | .istore _ => 2
  | .astore _ => 2
  | .iinc _ _ => 3
  | .bipush _ => 2
  | .sipush _ => 3
  | .ldc _ => 2
  | .ldc_w _ => 3
  | .getfield _ => 3
  | .putfield _ => 3
  | _ => 1
def oks (on : Nat) (cc : ByteArray) : Nat → List OpR → Bool
  | _, [] => true
  | pc, (op, len, r) :: t => decide (decode cc pc = .ok (op, len)) && decide (len = ilen op) && okR on op r && oks on cc (pc + len) t
def plen : Nat → List OpR → Nat
  | pc, [] => pc
  | pc, (_, len, _) :: t => plen (pc + len) t
def exs : List OpR → Cfg → Option Cfg
  | [], C => some C
  | (op, _, r) :: t, C => match ex1 op r C with
    | some C' => exs t C'
    | none => none
section RN
variable {p : Program} {l : Launch} {e : Env} {R : Room} {s : State} {m : MethodId} {args : Array Value} {below : List Frame} {meth : Method} {c : Code} {A : Nat → Prop} {D : va_G} {cI cZ : ClassId} {Q : State → Prop}
variable {on : Nat} {cc : ByteArray} {nL : Nat} {init : Bool} {ads0 : List Nat} {n0 n1 pc : Nat} {L : List (Option AV)} {st : List AV} {S : LSt}
/-- the judgement, at a configuration -/
abbrev RnC (p : Program) (l : Launch) (e : Env) (R : Room) (s : State) (m : MethodId) (args : Array Value) (below : List Frame) (meth : Method) (c : Code) (A : Nat → Prop) (D : va_G) (cI cZ : ClassId) (Q : State → Prop) (nL : Nat) (ads0 : List Nat) (n0 n1 : Nat) (pc : Nat) (C : Cfg) : Prop :=
  Rn p l e R s m args below meth c A D cI cZ Q nL ads0 n0 n1 pc C.1 C.2.1 C.2.2
theorem bi_inv {f : Int → Int → Int} {C C' : Cfg} (h : bi f C = some C') : ∃ L y x st S, C = (L, .inl y :: .inl x :: st, S) ∧ C' = (L, .inl (f x y) :: st, S) := by
  unfold bi at h
  split at h
  · cases h; exact ⟨_, _, _, _, _, rfl, rfl⟩
  · cases h
theorem ldI_inv {i : Nat} {C C' : Cfg} (h : ldI i C = some C') : ∃ L st S x, C = (L, st, S) ∧ L[i]? = some (some (.inl x)) ∧ C' = (L, .inl x :: st, S) := by
  unfold ldI at h
  split at h
  split at h
  · cases h; exact ⟨_, _, _, _, rfl, by assumption, rfl⟩
  · cases h
theorem ldR_inv {i : Nat} {C C' : Cfg} (h : ldR i C = some C') : ∃ L st S x, C = (L, st, S) ∧ L[i]? = some (some (.inr x)) ∧ C' = (L, .inr x :: st, S) := by
  unfold ldR at h
  split at h
  split at h
  · cases h; exact ⟨_, _, _, _, rfl, by assumption, rfl⟩
  · cases h
theorem stI_inv {i : Nat} {C C' : Cfg} (h : stI i C = some C') : ∃ L st S x, C = (L, .inl x :: st, S) ∧ i < L.length ∧ C' = (L.set i (some (.inl x)), st, S) := by
  unfold stI at h
  split at h
  · split at h
    · cases h; exact ⟨_, _, _, _, rfl, by assumption, rfl⟩
    · cases h
  · cases h
theorem stR_inv {i : Nat} {C C' : Cfg} (h : stR i C = some C') : ∃ L st S x, C = (L, .inr x :: st, S) ∧ i < L.length ∧ C' = (L.set i (some (.inr x)), st, S) := by
  unfold stR at h
  split at h
  · split at h
    · cases h; exact ⟨_, _, _, _, rfl, by assumption, rfl⟩
    · cases h
  · cases h
theorem psh_inv {n : Int} {C C' : Cfg} (h : psh n C = some C') : C' = (C.1, .inl n :: C.2.1, C.2.2) := by
  unfold psh at h; cases h; rfl
theorem gf_inv {ci sl : Nat} {C C' : Cfg} (h : gf ci sl C = some C') : ∃ L k st S q, C = (L, .inr k :: st, S) ∧ S.1[k]? = some (ci, q) ∧ ((q[sl]? = some 0 ∧ C' = (L, .inl (S.2 k sl) :: st, S)) ∨ ∃ x, q[sl]? = some (x + 2) ∧ x < S.1.length ∧ C' = (L, .inr x :: st, S)) := by
  unfold gf at h
  split at h
  · split at h
    · rename_i hk
      split at h
      · rename_i hc
        subst hc
        split at h
        · cases h; exact ⟨_, _, _, _, _, rfl, hk, Or.inl ⟨by assumption, rfl⟩⟩
        · cases h
        · split at h
          · cases h; exact ⟨_, _, _, _, _, rfl, hk, Or.inr ⟨_, by assumption, by assumption, rfl⟩⟩
          · cases h
        · cases h
      · cases h
    · cases h
  · cases h
theorem pf_inv {ci sl : Nat} {C C' : Cfg} (h : pf ci sl C = some C') : ∃ L x k st S q, C = (L, .inl x :: .inr k :: st, S) ∧ S.1[k]? = some (ci, q) ∧ q[sl]? = some 0 ∧ C' = (L, st, (S.1, up2 S.2 k sl x)) := by
  unfold pf at h
  split at h
  · split at h
    · rename_i hk
      split at h
      · rename_i hc
        subst hc
        split at h
        · cases h; exact ⟨_, _, _, _, _, _, rfl, hk, by assumption, rfl⟩
        · cases h
      · cases h
    · cases h
  · cases h
theorem ex1_ok {op : Instr} {r : Nat × Nat × Int} {C C' : Cfg} (hC : Cx on cc nL init p s m args meth c A D cI cZ) (hd : decode cc pc = .ok (op, ilen op)) (hk : okR on op r = true) (hx : ex1 op r C = some C')
    (k : RnC p l e R s m args below meth c A D cI cZ Q nL ads0 n0 n1 (pc + ilen op) C') : RnC p l e R s m args below meth c A D cI cZ Q nL ads0 n0 n1 pc C := by
  unfold ex1 at hx
  split at hx
  · obtain ⟨L, st, S, x, rfl, h2, rfl⟩ := ldI_inv hx; exact rn_iload hC hd h2 k
  · obtain ⟨L, st, S, x, rfl, h2, rfl⟩ := ldI_inv hx; exact rn_iload_n hC hd h2 k
  · obtain ⟨L, st, S, x, rfl, h2, rfl⟩ := ldR_inv hx; exact rn_aload hC hd h2 k
  · obtain ⟨L, st, S, x, rfl, h2, rfl⟩ := ldR_inv hx; exact rn_aload_n hC hd h2 k
  · obtain ⟨L, st, S, x, rfl, h2, rfl⟩ := stI_inv hx; exact rn_istore hC hd h2 k
  · obtain ⟨L, st, S, x, rfl, h2, rfl⟩ := stI_inv hx; exact rn_istore_n hC hd h2 k
  · obtain ⟨L, st, S, x, rfl, h2, rfl⟩ := stR_inv hx; exact rn_astore hC hd h2 k
  · obtain ⟨L, st, S, x, rfl, h2, rfl⟩ := stR_inv hx; exact rn_astore_n hC hd h2 k
  · split at hx
    split at hx
    · cases hx; exact rn_iinc hC hd (by assumption) k
    · cases hx
  · rw [psh_inv hx] at k; simp only [okR, decide_eq_true_eq] at hk; exact rn_iconst hC hd hk k
  · rw [psh_inv hx] at k; simp only [okR, Bool.and_eq_true, decide_eq_true_eq] at hk; exact rn_bipush hC hd hk.1 hk.2 k
  · rw [psh_inv hx] at k; simp only [okR, Bool.and_eq_true, decide_eq_true_eq] at hk; exact rn_sipush hC hd hk.1 hk.2 k
  · rw [psh_inv hx] at k; simp only [okR, Bool.and_eq_true, decide_eq_true_eq] at hk; exact rn_ldc hC hd hk.1 hk.2 k
  · rw [psh_inv hx] at k; simp only [okR, Bool.and_eq_true, decide_eq_true_eq] at hk; exact rn_ldcw hC hd hk.1 hk.2 k
  · obtain ⟨L, y, x, st, S, rfl, rfl⟩ := bi_inv hx; exact rn_iadd hC hd k
  · obtain ⟨L, y, x, st, S, rfl, rfl⟩ := bi_inv hx; exact rn_isub hC hd k
  · obtain ⟨L, y, x, st, S, rfl, rfl⟩ := bi_inv hx; exact rn_imul hC hd k
  · obtain ⟨L, y, x, st, S, rfl, rfl⟩ := bi_inv hx; exact rn_iand hC hd k
  · obtain ⟨L, y, x, st, S, rfl, rfl⟩ := bi_inv hx; exact rn_ior hC hd k
  · obtain ⟨L, y, x, st, S, rfl, rfl⟩ := bi_inv hx; exact rn_ixor hC hd k
  · obtain ⟨L, y, x, st, S, rfl, rfl⟩ := bi_inv hx; exact rn_ishl hC hd k
  · obtain ⟨L, y, x, st, S, rfl, rfl⟩ := bi_inv hx; exact rn_ishr hC hd k
  · obtain ⟨L, y, x, st, S, rfl, rfl⟩ := bi_inv hx; exact rn_iushr hC hd k
  · split at hx
    · cases hx; exact rn_dup hC hd k
    · cases hx
  · split at hx
    · cases hx; exact rn_pop hC hd k
    · cases hx
  · split at hx
    · cases hx; exact rn_dup_x1 hC hd k
    · cases hx
  · split at hx
    · cases hx; exact rn_dup2 hC hd k
    · cases hx
  · obtain ⟨L, k9, st, S, q, rfl, h1, h2⟩ := gf_inv hx
    simp only [okR, Bool.and_eq_true, decide_eq_true_eq] at hk
    rcases h2 with ⟨h3, rfl⟩ | ⟨x, h3, h4, rfl⟩
    · exact rn_getI hC hd hk.1 hk.2 h1 h3 k
    · exact rn_getR hC hd hk.1 hk.2 h1 h3 h4 k
  · obtain ⟨L, x, k9, st, S, q, rfl, h1, h2, rfl⟩ := pf_inv hx
    simp only [okR, Bool.and_eq_true, decide_eq_true_eq] at hk
    exact rn_putI hC hd hk.1.1.1 hk.1.1.2 h1 h2 (Or.inl hk.1.2) (Or.inl hk.2) k
  · cases hx
theorem exs_ok : ∀ (ops : List OpR) {pc : Nat} {C C' : Cfg}, Cx on cc nL init p s m args meth c A D cI cZ → oks on cc pc ops = true → exs ops C = some C' →
    RnC p l e R s m args below meth c A D cI cZ Q nL ads0 n0 n1 (plen pc ops) C' → RnC p l e R s m args below meth c A D cI cZ Q nL ads0 n0 n1 pc C
  | [], pc, C, C', _, _, hx, k => by cases hx; exact k
  | (op, len, r) :: t, pc, C, C', hC, ho, hx, k => by
    simp only [oks, Bool.and_eq_true, decide_eq_true_eq] at ho
    obtain ⟨⟨⟨h1, h2⟩, h3⟩, h4⟩ := ho
    subst h2
    unfold exs at hx
    split at hx
    · rename_i C1 hx1
      exact ex1_ok hC h1 h3 hx1 (exs_ok t hC h4 hx k)
    · cases hx
/-- a stretch: from the configuration C to C' -/
theorem rn_ops {ops : List OpR} {pc' : Nat} {L' : List (Option AV)} {st' : List AV} {S' : LSt} (hC : Cx on cc nL init p s m args meth c A D cI cZ) (ho : oks on cc pc ops = true ∧ plen pc ops = pc') (hx : exs ops (L, st, S) = some (L', st', S'))
    (k : Rn p l e R s m args below meth c A D cI cZ Q nL ads0 n0 n1 pc' L' st' S') : Rn p l e R s m args below meth c A D cI cZ Q nL ads0 n0 n1 pc L st S := by
  obtain ⟨h1, rfl⟩ := ho
  exact exs_ok ops (C := (L, st, S)) (C' := (L', st', S')) hC h1 hx k
/-- a contract out of the walk from its entry -/
def entL (nL : Nat) (as : List AV) : List (Option AV) := as.map some ++ List.replicate (nL - as.length) none
theorem ent_lrs {ads : List Nat} {as : List AV} {cvs : List Value} (h : vrs ads as cvs) (hn : as.length ≤ nL) : lrs ads nL (entL nL as) ((lg_sl cvs ++ List.replicate (nL - (lg_sl cvs).length) Slot.unset).toArray) := by
  have hlg : ∀ (vs : List AV) (cs : List Value), vrs ads vs cs → lg_sl cs = cs.map Slot.val ∧ ∀ i, lv_args i cs = (cs.zipIdx i).map (fun q => (q.2, q.1)) := by
    intro vs
    induction vs with
    | nil => intro cs hcs; cases cs with
      | nil => exact ⟨rfl, fun i => rfl⟩
      | cons => exact hcs.elim
    | cons v vs ih => intro cs hcs; cases cs with
      | nil => exact hcs.elim
      | cons c0 cs =>
        have hc := vr_cat hcs.1
        obtain ⟨i1, i2⟩ := ih cs hcs.2
        refine ⟨?_, fun i => ?_⟩
        · have i3 := i1
          simp only [lg_sl] at i3 ⊢
          simp [hc, i3]
        · simp [lv_args, hc, i2]
  obtain ⟨e1, e2⟩ := hlg as cvs h
  have hl := lv_entry cvs (n := nL) (by rw [e1, List.length_map, ← vrs_len h]; exact hn)
  refine ⟨hl.1, by unfold entL; rw [List.length_append, List.length_map, List.length_replicate]; omega, hl.2.1, fun i v hi => ?_⟩
  unfold entL at hi
  by_cases hia : i < as.length
  · rw [List.getElem?_append_left (by rw [List.length_map]; exact hia), List.getElem?_map, List.getElem?_eq_getElem hia] at hi
    simp only [Option.map_some, Option.some.injEq] at hi
    have hic : i < cvs.length := by rw [← vrs_len h]; exact hia
    have key : ∀ (vs : List AV) (cs : List Value) (i : Nat) (h1 : i < vs.length) (h2 : i < cs.length), vrs ads vs cs → vr ads vs[i] cs[i] := by
      intro vs
      induction vs with
      | nil => intro cs i h1; exact absurd h1 (Nat.not_lt_zero _)
      | cons v0 vs ih => intro cs i h1 h2 h3; cases cs with
        | nil => exact h3.elim
        | cons c0 cs => cases i with
          | zero => exact h3.1
          | succ i => exact ih cs i (by simpa using h1) (by simpa using h2) h3.2
    refine ⟨cvs[i], by rw [← hi]; exact key as cvs i hia hic h, hl.2.2 (i, cvs[i]) ?_⟩
    rw [e2 0]
    refine List.mem_map.mpr ⟨(cvs[i], i), ?_, rfl⟩
    rw [List.mem_zipIdx_iff_getElem?]
    exact List.getElem?_eq_getElem hic
  · rw [List.getElem?_append_right (by rw [List.length_map]; omega)] at hi
    have := List.mem_of_getElem? hi
    rw [List.mem_replicate] at this
    cases this.2
end RN
/-- a method of a class of which some are run by an entry, but this one isn't -/
theorem met_ofWF {l : Launch} {y : MethodName} {ws ws' : List Cond} {rm : Room} {Pc : Array Value → State → Prop} {Qc : Array Value → State → Outcome → State → Prop} {mc ms : Nat} {free : Addr → Prop} {cc : ByteArray} {maxL : Nat} {ret : Option FieldType}
    (hy : plainFor y = true) (hw : ws = Cond.code y cc maxL ret :: ws')
    (body : ∀ p e s m args below meth c s₁, BodyLoose p l y (headSpec ws rm) cc maxL ret e s m args below meth c s₁ → c.maxLocals = maxL → Pc args s →
      W p l e (headSpec ws rm).room s m args below meth c s.heap [] 0 0 (MQ below Qc args s mc ms free) (entryFrame m args maxL)) : Met l y ws rm Pc Qc mc ms free := by
  refine MetFree.of_bodySF (code := cc) (maxLocals := maxL) (ret := ret) hy ?_ ?_
  · intro args s m h hn
    obtain ⟨meth, c, h1, h2, h3, h4, h5, h6, -, -⟩ := Cond.code_spec hn (atoms_spec (ws := ws) h _ (by rw [hw]; exact List.mem_cons_self))
    exact ⟨meth, c, h1, h2, h3, h4, h5, h6⟩
  · intro p e s m args below meth c s₁ B hml hP _
    have hh0 : s₁.heap = s.heap := by rw [B.state]; rfl
    obtain ⟨t, a1, o, b1, b2, b3⟩ := body p e s m args below meth c s₁ B hml hP s₁ hh0 (Stand.of_body B)
    exact ⟨t, o, a1, b1, b2, ⟨b3.1, b3.2⟩⟩
theorem ct_of {l : Launch} {d on : Nat} {y : MethodName} {bytes : ByteArray} {maxL : Nat} {ret : Option FieldType} {as : List AV} {S S' : LSt} {v : Option AV} {n : Nat} (hm : MOK y bytes maxL ret n) (hy : y.cls = ownN on) (hn : as.length ≤ maxL)
    (body : ∀ (p : Program) (e : Env) (R : Room) (s : State) (m : MethodId) (args : Array Value) (below : List Frame) (meth : Method) (c : Code) (A : Nat → Prop) (D : va_G) (cI cZ : ClassId) (ads0 : List Nat),
      Cx on bytes maxL (y.name == "<init>") p s m args meth c A D cI cZ → R = rmD d (S'.1.length - S.1.length) (nSl S'.1 - nSl S.1) → meth.sig.returnType = ret →
      Rn p l e R s m args below meth c A D cI cZ (MQ below (QR D cI cZ A ads0 v S') args s (S'.1.length - S.1.length) (nSl S'.1 - nSl S.1) A) maxL ads0 S.1.length (nSl S.1) 0 (entL maxL as) [] S) : CT l d y bytes maxL ret as S v S' := by
  intro D cI cZ ads sz cvs hv hl hr
  refine met_ofWF (cc := bytes) (maxL := maxL) (ret := ret) hm.2.2.2.1 rfl ?_
  intro p e s m args below meth c s₁ B hml hp
  obtain ⟨rfl, hsz, hP, hK, hD⟩ := hp
  have hts := atoms_spec (ws := wsM y bytes maxL ret) B.pre
  have hAe : ∀ q, s.heap.size ≤ q → AA ads sz q := fun q h => Or.inr (by rw [← hsz]; exact h)
  have hC : Cx on bytes maxL (y.name == "<init>") p s m cvs.toArray meth c (AA ads sz) D cI cZ :=
    ⟨B.exec, B.bytes, hml, by rw [← hy]; exact findClass_of_methodNamed B.named, fun w hw => hts w (List.mem_cons_of_mem _ hw), B.notSynchronized, fun h => by rw [(name_of_methodNamed B.named B.method).1]; exact eq_of_beq h, hK, hAe⟩
  have hb := body p e (headSpec (wsM y bytes maxL ret) (rmD d (S'.1.length - S.1.length) (nSl S'.1 - nSl S.1))).room s m cvs.toArray below meth c (AA ads sz) D cI cZ ads hC rfl B.returns
  have hw := hb ads s.heap [] _ [] ⟨hP, ⟨hD.1, fun k q hk => ?_⟩, va_S.rf, hl, hr, List.prefix_refl _⟩ (ent_lrs hv hn) trivial
  · rw [Nat.sub_self, Nat.sub_self] at hw
    rw [lg_entry_eq]
    exact hw
  · rw [mkW_get] at hk
    cases hq : S.1[k]? with
    | none => rw [hq] at hk; cases hk
    | some x =>
      rw [hq] at hk
      cases hk
      have hkl : k < ads.length := by rw [hl]; exact (List.getElem?_eq_some_iff.mp hq).1
      refine Or.inl ?_
      show ads.getD k 0 ∈ ads
      rw [List.getD_eq_getElem?_getD, List.getElem?_eq_getElem hkl]
      exact List.getElem_mem hkl
theorem cx_of {l : Launch} {d on : Nat} {y : MethodName} {bytes : ByteArray} {maxL : Nat} {ret : Option FieldType} {as : List AV} {S S' : LSt} {E : Nat} {n : Nat} (hm : MOK y bytes maxL ret n) (hpl : plainName y.cls = true) (hy : y.cls = ownN on) (hn : as.length ≤ maxL)
    (body : ∀ (p : Program) (e : Env) (R : Room) (s : State) (m : MethodId) (args : Array Value) (below : List Frame) (meth : Method) (c : Code) (A : Nat → Prop) (D : va_G) (cI cZ : ClassId) (ads0 : List Nat),
      Cx on bytes maxL (y.name == "<init>") p s m args meth c A D cI cZ → R = rmD d 1 6 → (∀ x ∈ c.exceptionTable.toList, False) → TH A s s.heap → A = AA ads0 s.heap.size → meth.sig.returnType = ret →
      Rn p l e R s m args below meth c A D cI cZ (vx_MQ below (va_Qv (fun _ : List Nat => False) (BW D cI cZ A ads0 S') A) (XO D cI cZ A ads0 E S') args s 1 6 A) maxL ads0 S.1.length (nSl S.1) 0 (entL maxL as) [] S) : CX l d y bytes maxL ret as S E S' := by
  intro D cI cZ ads sz cvs hv hl hr
  refine vx_ofW (cc := bytes) (maxL := maxL) (ret := ret) hpl rfl ?_
  intro p e s m args below meth c s₁ B hml hex hp
  obtain ⟨rfl, ⟨hsz, hP, hK, hD⟩, hT⟩ := hp
  subst hsz
  have hts := atoms_spec (ws := wsM y bytes maxL ret) B.pre
  have hAe : ∀ q, s.heap.size ≤ q → AA ads s.heap.size q := fun q h => Or.inr h
  have hC : Cx on bytes maxL (y.name == "<init>") p s m cvs.toArray meth c (AA ads s.heap.size) D cI cZ :=
    ⟨B.exec, B.bytes, hml, by rw [← hy]; exact findClass_of_methodNamed B.named, fun w hw => hts w (List.mem_cons_of_mem _ hw), B.notSynchronized, fun h => by rw [(name_of_methodNamed B.named B.method).1]; exact eq_of_beq h, hK, hAe⟩
  have hb := body p e (headSpec (wsM y bytes maxL ret) (rmD d 1 6)).room s m cvs.toArray below meth c (AA ads s.heap.size) D cI cZ ads hC rfl hex hT rfl B.returns
  have hw := hb ads s.heap [] _ [] ⟨hP, ⟨hD.1, fun k q hk => ?_⟩, va_S.rf, hl, hr, List.prefix_refl _⟩ (ent_lrs hv hn) trivial
  · rw [Nat.sub_self, Nat.sub_self] at hw
    rw [lg_entry_eq]
    exact hw
  · rw [mkW_get] at hk
    cases hq : S.1[k]? with
    | none => rw [hq] at hk; cases hk
    | some x =>
      rw [hq] at hk
      cases hk
      have hkl : k < ads.length := by rw [hl]; exact (List.getElem?_eq_some_iff.mp hq).1
      refine Or.inl ?_
      show ads.getD k 0 ∈ ads
      rw [List.getD_eq_getElem?_getD, List.getElem?_eq_getElem hkl]
      exact List.getElem_mem hkl
