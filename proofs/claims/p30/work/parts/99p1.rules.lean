/-! rules for the walks of the law's methods -/
section RL2
variable {p : Program} {l : Launch} {e : Env} {R : Room} {s : State} {m : MethodId} {args : Array Value} {below : List Frame} {meth : Method} {c : Code} {A : Nat → Prop} {D : va_G} {cI cZ : ClassId} {Q : State → Prop}
variable {cc : ByteArray} {nL kc ks pc : Nat} {Pw : List Nat → Heap → List Loc → Prop} {L : List (Option AV)} {st : List AV}
theorem rl_ldc {n : Int} {idx : Nat} (hC : Cx 12 cc nL false p s m args meth c A D cI cZ) (hd : decode cc pc = .ok (.ldc idx, 2)) (hk : (12, idx, n) ∈ klk) (hn : inR n)
    (k : Rg p l e R s m args below meth c Pw kc ks Q nL (pc + 2) L (.inl n :: st)) : Rg p l e R s m args below meth c Pw kc ks Q nL pc L st := by
  intro ads H locs ls cst hW hL hv
  obtain ⟨hx, hb, -, hown, hts, -⟩ := hC
  exact lv_ldc hx hb hown (hts _ (klk_ok _ hk)) hd (k ads H locs ls _ hW hL ⟨⟨hn, rfl⟩, hv⟩)
theorem rl_sipush {n : Int} (hC : Cx 12 cc nL false p s m args meth c A D cI cZ) (hd : decode cc pc = .ok (.sipush n, 3)) (hn : inR n) (hv8 : (Int16.ofInt n).toInt32 = Int32.ofInt n)
    (k : Rg p l e R s m args below meth c Pw kc ks Q nL (pc + 3) L (.inl n :: st)) : Rg p l e R s m args below meth c Pw kc ks Q nL pc L st := by
  intro ads H locs ls cst hW hL hv
  obtain ⟨hx, hb, -⟩ := hC
  exact lv_sipush hx hb hd hv8 (k ads H locs ls _ hW hL ⟨⟨hn, rfl⟩, hv⟩)
theorem rl_imul {x y : Int} (hC : Cx 12 cc nL false p s m args meth c A D cI cZ) (hd : decode cc pc = .ok (.imul, 1))
    (k : Rg p l e R s m args below meth c Pw kc ks Q nL (pc + 1) L (.inl (wrap (x * y)) :: st)) : Rg p l e R s m args below meth c Pw kc ks Q nL pc L (.inl y :: .inl x :: st) :=
  rg_bin (op := .imul) (f := fun x y => wrap (x * y)) ⟨hC.1, hC.2.1⟩ (fun H locs cells slots ls rest hx hy w => lv_imul hC.1 hC.2.1 hd (by rw [← Int32.ofInt_mul, ← i32_wrap]; exact w)) (fun _ _ => wrap_in _) k
theorem rl_rem {x y : Int} (hC : Cx 12 cc nL false p s m args meth c A D cI cZ) (hd : decode cc pc = .ok (.irem, 1)) (hne : ¬ y = 0)
    (k : Rg p l e R s m args below meth c Pw kc ks Q nL (pc + 1) L (.inl (jrem x y) :: st)) : Rg p l e R s m args below meth c Pw kc ks Q nL pc L (.inl y :: .inl x :: st) :=
  rg_bin (op := .irem) (f := jrem) ⟨hC.1, hC.2.1⟩ (fun H locs cells slots ls rest hx hy w => lv_irem hC.1 hC.2.1 hd (i32_ne0 hy hne) (by rw [i32_rem hx hy]; exact w)) (fun hx _ => jrem_in hx) k
theorem rl_div {x y : Int} (hC : Cx 12 cc nL false p s m args meth c A D cI cZ) (hd : decode cc pc = .ok (.idiv, 1)) (hne : ¬ y = 0)
    (k : Rg p l e R s m args below meth c Pw kc ks Q nL (pc + 1) L (.inl (jdiv x y) :: st)) : Rg p l e R s m args below meth c Pw kc ks Q nL pc L (.inl y :: .inl x :: st) :=
  rg_bin (op := .idiv) (f := jdiv) ⟨hC.1, hC.2.1⟩ (fun H locs cells slots ls rest hx hy w => lv_idiv hC.1 hC.2.1 hd (i32_ne0 hy hne) (by rw [i32_div hx hy]; exact w)) (fun _ _ => wrap_in _) k
def exl (op : Instr) : Bool := match op with
  | .sipush _ => true
  | .ldc _ => true
  | .imul => true
  | _ => exg op
theorem ex1_l {op : Instr} {r : Nat × Nat × Int} {S S' : LSt} {L' : List (Option AV)} {st' : List AV} (hC : Cx 12 cc nL false p s m args meth c A D cI cZ) (hd : decode cc pc = .ok (op, ilen op)) (hk : okR 12 op r = true) (hg : exl op = true) (hx : ex1 op r (L, st, S) = some (L', st', S'))
    (k : Rg p l e R s m args below meth c Pw kc ks Q nL (pc + ilen op) L' st') : Rg p l e R s m args below meth c Pw kc ks Q nL pc L st := by
  unfold exl at hg
  split at hg
  · change psh _ (L, st, S) = some (L', st', S') at hx; have h9 := psh_inv hx; cases h9; simp only [okR, Bool.and_eq_true, decide_eq_true_eq] at hk; exact rl_sipush hC hd hk.1 hk.2 k
  · change psh _ (L, st, S) = some (L', st', S') at hx; have h9 := psh_inv hx; cases h9; simp only [okR, Bool.and_eq_true, decide_eq_true_eq] at hk; exact rl_ldc hC hd hk.1 hk.2 k
  · obtain ⟨L, y, x, st, S, h1, h2⟩ := bi_inv hx; cases h1; cases h2; exact rl_imul hC hd k
  · exact ex1_g ⟨hC.1, hC.2.1⟩ hd hk hg hx k
theorem rl_ops {S S' : LSt} : ∀ {ops : List OpR} {pc pc' : Nat} {L L' : List (Option AV)} {st st' : List AV}, Cx 12 cc nL false p s m args meth c A D cI cZ → (oks 12 cc pc ops = true ∧ plen pc ops = pc') → ops.all (fun q => exl q.1) = true → exs ops (L, st, S) = some (L', st', S') →
    Rg p l e R s m args below meth c Pw kc ks Q nL pc' L' st' → Rg p l e R s m args below meth c Pw kc ks Q nL pc L st := by
  intro ops
  induction ops generalizing S with
  | nil => intro pc pc' L L' st st' _ ho _ hx k; cases hx; obtain ⟨-, rfl⟩ := ho; exact k
  | cons q t ih =>
    intro pc pc' L L' st st' hC ho hg hx k
    obtain ⟨op, len, r⟩ := q
    obtain ⟨ho, hp⟩ := ho
    simp only [oks, Bool.and_eq_true, decide_eq_true_eq] at ho
    obtain ⟨⟨⟨h1, h2⟩, h3⟩, h4⟩ := ho
    subst h2
    simp only [List.all_cons, Bool.and_eq_true] at hg
    unfold exs at hx
    split at hx
    · rename_i C1 hx1
      obtain ⟨L1, st1, S1⟩ := C1
      exact ex1_l hC h1 h3 hg.1 hx1 (ih hC ⟨h4, hp⟩ hg.2 hx k)
    · cases hx
theorem rl_goto {off : Int} {tgt : Nat} (hC : Cx 12 cc nL false p s m args meth c A D cI cZ) (hd : decode cc pc = .ok (.goto off, 3)) (ht : (pc : Int) + off = (tgt : Int)) (k : Rg p l e R s m args below meth c Pw kc ks Q nL tgt L st) : Rg p l e R s m args below meth c Pw kc ks Q nL pc L st := rg_goto ⟨hC.1, hC.2.1⟩ hd ht k
theorem rl_more {kc' ks' : Nat} (h1 : kc ≤ kc') (h2 : ks ≤ ks') (k : Rg p l e R s m args below meth c Pw kc' ks' Q nL pc L st) : Rg p l e R s m args below meth c Pw kc ks Q nL pc L st := fun ads H locs ls cst hW hL hv => W.widen h1 h2 (k ads H locs ls cst hW hL hv)
theorem rl_weak {L' : List (Option AV)} (hlen : L'.length ≤ L.length) (h : ∀ (i : Nat) (v : AV), L'[i]? = some (some v) → L[i]? = some (some v)) (k : Rg p l e R s m args below meth c Pw kc ks Q nL pc L' st) : Rg p l e R s m args below meth c Pw kc ks Q nL pc L st :=
  fun ads H locs ls cst hW hL hv => k ads H locs ls cst hW ⟨hL.1, Nat.le_trans hlen hL.2.1, hL.2.2.1, fun i v hi => hL.2.2.2 i v (h i v hi)⟩ hv
theorem rl_if_eq {x : Int} {off : Int} {tgt : Nat} (hC : Cx 12 cc nL false p s m args meth c A D cI cZ) (hd : decode cc pc = .ok (.ifCond .eq off, 3)) (ht : (pc : Int) + off = (tgt : Int))
    (kt : x = 0 → Rg p l e R s m args below meth c Pw kc ks Q nL tgt L st) (kf : ¬ (x = 0) → Rg p l e R s m args below meth c Pw kc ks Q nL (pc + 3) L st) : Rg p l e R s m args below meth c Pw kc ks Q nL pc L (.inl x :: st) := by
  intro ads H locs ls cst hW hL hv
  obtain ⟨hx, hb, -⟩ := hC
  match cst, hv with
  | cv :: cst, hv =>
    obtain ⟨hxr, rfl⟩ := vr_int hv.1
    have hyr := in0
    have hi := i32_eq hxr hyr
    rw [i32_zero] at hi
    exact lv_if_eq hx hb hd ht (fun h => kt (hi.mp h) ads H locs ls _ hW hL hv.2) (fun h => kf (fun h2 => h (hi.mpr h2)) ads H locs ls _ hW hL hv.2)
theorem rl_icmp_eq {x y : Int} {off : Int} {tgt : Nat} (hC : Cx 12 cc nL false p s m args meth c A D cI cZ) (hd : decode cc pc = .ok (.if_icmp .eq off, 3)) (ht : (pc : Int) + off = (tgt : Int))
    (kt : x = y → Rg p l e R s m args below meth c Pw kc ks Q nL tgt L st) (kf : ¬ (x = y) → Rg p l e R s m args below meth c Pw kc ks Q nL (pc + 3) L st) : Rg p l e R s m args below meth c Pw kc ks Q nL pc L (.inl y :: .inl x :: st) := by
  intro ads H locs ls cst hW hL hv
  obtain ⟨hx, hb, -⟩ := hC
  match cst, hv with
  | cw :: cv :: cst, hv =>
    obtain ⟨hyr, rfl⟩ := vr_int hv.1
    obtain ⟨hxr, rfl⟩ := vr_int hv.2.1
    have hi := i32_eq hxr hyr
    exact lv_icmp_eq hx hb hd ht (fun h => kt (hi.mp h) ads H locs ls _ hW hL hv.2.2) (fun h => kf (fun h2 => h (hi.mpr h2)) ads H locs ls _ hW hL hv.2.2)
  | [cy], hv => exact hv.2.elim
theorem rl_if_ne {x : Int} {off : Int} {tgt : Nat} (hC : Cx 12 cc nL false p s m args meth c A D cI cZ) (hd : decode cc pc = .ok (.ifCond .ne off, 3)) (ht : (pc : Int) + off = (tgt : Int))
    (kt : ¬ x = 0 → Rg p l e R s m args below meth c Pw kc ks Q nL tgt L st) (kf : x = 0 → Rg p l e R s m args below meth c Pw kc ks Q nL (pc + 3) L st) : Rg p l e R s m args below meth c Pw kc ks Q nL pc L (.inl x :: st) := by
  intro ads H locs ls cst hW hL hv
  obtain ⟨hx, hb, -⟩ := hC
  match cst, hv with
  | cv :: cst, hv =>
    obtain ⟨hxr, rfl⟩ := vr_int hv.1
    have hyr := in0
    have hi := i32_eq hxr hyr
    rw [i32_zero] at hi
    exact lv_if_ne hx hb hd ht (fun h => kt (fun h2 => h (hi.mpr h2)) ads H locs ls _ hW hL hv.2) (fun h => kf (hi.mp h) ads H locs ls _ hW hL hv.2)
theorem rl_icmp_ne {x y : Int} {off : Int} {tgt : Nat} (hC : Cx 12 cc nL false p s m args meth c A D cI cZ) (hd : decode cc pc = .ok (.if_icmp .ne off, 3)) (ht : (pc : Int) + off = (tgt : Int))
    (kt : ¬ x = y → Rg p l e R s m args below meth c Pw kc ks Q nL tgt L st) (kf : x = y → Rg p l e R s m args below meth c Pw kc ks Q nL (pc + 3) L st) : Rg p l e R s m args below meth c Pw kc ks Q nL pc L (.inl y :: .inl x :: st) := by
  intro ads H locs ls cst hW hL hv
  obtain ⟨hx, hb, -⟩ := hC
  match cst, hv with
  | cw :: cv :: cst, hv =>
    obtain ⟨hyr, rfl⟩ := vr_int hv.1
    obtain ⟨hxr, rfl⟩ := vr_int hv.2.1
    have hi := i32_eq hxr hyr
    exact lv_icmp_ne hx hb hd ht (fun h => kt (fun h2 => h (hi.mpr h2)) ads H locs ls _ hW hL hv.2.2) (fun h => kf (hi.mp h) ads H locs ls _ hW hL hv.2.2)
  | [cy], hv => exact hv.2.elim
theorem rl_if_lt {x : Int} {off : Int} {tgt : Nat} (hC : Cx 12 cc nL false p s m args meth c A D cI cZ) (hd : decode cc pc = .ok (.ifCond .lt off, 3)) (ht : (pc : Int) + off = (tgt : Int))
    (kt : x < 0 → Rg p l e R s m args below meth c Pw kc ks Q nL tgt L st) (kf : ¬ (x < 0) → Rg p l e R s m args below meth c Pw kc ks Q nL (pc + 3) L st) : Rg p l e R s m args below meth c Pw kc ks Q nL pc L (.inl x :: st) := by
  intro ads H locs ls cst hW hL hv
  obtain ⟨hx, hb, -⟩ := hC
  match cst, hv with
  | cv :: cst, hv =>
    obtain ⟨hxr, rfl⟩ := vr_int hv.1
    have hyr := in0
    have hi := i32_lt hxr hyr
    rw [i32_zero] at hi
    exact lv_if_lt hx hb hd ht (fun h => kt (hi.mp h) ads H locs ls _ hW hL hv.2) (fun h => kf (fun h2 => h (hi.mpr h2)) ads H locs ls _ hW hL hv.2)
theorem rl_icmp_lt {x y : Int} {off : Int} {tgt : Nat} (hC : Cx 12 cc nL false p s m args meth c A D cI cZ) (hd : decode cc pc = .ok (.if_icmp .lt off, 3)) (ht : (pc : Int) + off = (tgt : Int))
    (kt : x < y → Rg p l e R s m args below meth c Pw kc ks Q nL tgt L st) (kf : ¬ (x < y) → Rg p l e R s m args below meth c Pw kc ks Q nL (pc + 3) L st) : Rg p l e R s m args below meth c Pw kc ks Q nL pc L (.inl y :: .inl x :: st) := by
  intro ads H locs ls cst hW hL hv
  obtain ⟨hx, hb, -⟩ := hC
  match cst, hv with
  | cw :: cv :: cst, hv =>
    obtain ⟨hyr, rfl⟩ := vr_int hv.1
    obtain ⟨hxr, rfl⟩ := vr_int hv.2.1
    have hi := i32_lt hxr hyr
    exact lv_icmp_lt hx hb hd ht (fun h => kt (hi.mp h) ads H locs ls _ hW hL hv.2.2) (fun h => kf (fun h2 => h (hi.mpr h2)) ads H locs ls _ hW hL hv.2.2)
  | [cy], hv => exact hv.2.elim
theorem rl_if_ge {x : Int} {off : Int} {tgt : Nat} (hC : Cx 12 cc nL false p s m args meth c A D cI cZ) (hd : decode cc pc = .ok (.ifCond .ge off, 3)) (ht : (pc : Int) + off = (tgt : Int))
    (kt : 0 ≤ x → Rg p l e R s m args below meth c Pw kc ks Q nL tgt L st) (kf : ¬ (0 ≤ x) → Rg p l e R s m args below meth c Pw kc ks Q nL (pc + 3) L st) : Rg p l e R s m args below meth c Pw kc ks Q nL pc L (.inl x :: st) := by
  intro ads H locs ls cst hW hL hv
  obtain ⟨hx, hb, -⟩ := hC
  match cst, hv with
  | cv :: cst, hv =>
    obtain ⟨hxr, rfl⟩ := vr_int hv.1
    have hyr := in0
    have hi := i32_le hyr hxr
    rw [i32_zero] at hi
    exact lv_if_ge hx hb hd ht (fun h => kt (hi.mp h) ads H locs ls _ hW hL hv.2) (fun h => kf (fun h2 => h (hi.mpr h2)) ads H locs ls _ hW hL hv.2)
theorem rl_icmp_ge {x y : Int} {off : Int} {tgt : Nat} (hC : Cx 12 cc nL false p s m args meth c A D cI cZ) (hd : decode cc pc = .ok (.if_icmp .ge off, 3)) (ht : (pc : Int) + off = (tgt : Int))
    (kt : y ≤ x → Rg p l e R s m args below meth c Pw kc ks Q nL tgt L st) (kf : ¬ (y ≤ x) → Rg p l e R s m args below meth c Pw kc ks Q nL (pc + 3) L st) : Rg p l e R s m args below meth c Pw kc ks Q nL pc L (.inl y :: .inl x :: st) := by
  intro ads H locs ls cst hW hL hv
  obtain ⟨hx, hb, -⟩ := hC
  match cst, hv with
  | cw :: cv :: cst, hv =>
    obtain ⟨hyr, rfl⟩ := vr_int hv.1
    obtain ⟨hxr, rfl⟩ := vr_int hv.2.1
    have hi := i32_le hyr hxr
    exact lv_icmp_ge hx hb hd ht (fun h => kt (hi.mp h) ads H locs ls _ hW hL hv.2.2) (fun h => kf (fun h2 => h (hi.mpr h2)) ads H locs ls _ hW hL hv.2.2)
  | [cy], hv => exact hv.2.elim
theorem rl_if_gt {x : Int} {off : Int} {tgt : Nat} (hC : Cx 12 cc nL false p s m args meth c A D cI cZ) (hd : decode cc pc = .ok (.ifCond .gt off, 3)) (ht : (pc : Int) + off = (tgt : Int))
    (kt : 0 < x → Rg p l e R s m args below meth c Pw kc ks Q nL tgt L st) (kf : ¬ (0 < x) → Rg p l e R s m args below meth c Pw kc ks Q nL (pc + 3) L st) : Rg p l e R s m args below meth c Pw kc ks Q nL pc L (.inl x :: st) := by
  intro ads H locs ls cst hW hL hv
  obtain ⟨hx, hb, -⟩ := hC
  match cst, hv with
  | cv :: cst, hv =>
    obtain ⟨hxr, rfl⟩ := vr_int hv.1
    have hyr := in0
    have hi := i32_lt hyr hxr
    rw [i32_zero] at hi
    exact lv_if_gt hx hb hd ht (fun h => kt (hi.mp h) ads H locs ls _ hW hL hv.2) (fun h => kf (fun h2 => h (hi.mpr h2)) ads H locs ls _ hW hL hv.2)
theorem rl_icmp_gt {x y : Int} {off : Int} {tgt : Nat} (hC : Cx 12 cc nL false p s m args meth c A D cI cZ) (hd : decode cc pc = .ok (.if_icmp .gt off, 3)) (ht : (pc : Int) + off = (tgt : Int))
    (kt : y < x → Rg p l e R s m args below meth c Pw kc ks Q nL tgt L st) (kf : ¬ (y < x) → Rg p l e R s m args below meth c Pw kc ks Q nL (pc + 3) L st) : Rg p l e R s m args below meth c Pw kc ks Q nL pc L (.inl y :: .inl x :: st) := by
  intro ads H locs ls cst hW hL hv
  obtain ⟨hx, hb, -⟩ := hC
  match cst, hv with
  | cw :: cv :: cst, hv =>
    obtain ⟨hyr, rfl⟩ := vr_int hv.1
    obtain ⟨hxr, rfl⟩ := vr_int hv.2.1
    have hi := i32_lt hyr hxr
    exact lv_icmp_gt hx hb hd ht (fun h => kt (hi.mp h) ads H locs ls _ hW hL hv.2.2) (fun h => kf (fun h2 => h (hi.mpr h2)) ads H locs ls _ hW hL hv.2.2)
  | [cy], hv => exact hv.2.elim
theorem rl_if_le {x : Int} {off : Int} {tgt : Nat} (hC : Cx 12 cc nL false p s m args meth c A D cI cZ) (hd : decode cc pc = .ok (.ifCond .le off, 3)) (ht : (pc : Int) + off = (tgt : Int))
    (kt : x ≤ 0 → Rg p l e R s m args below meth c Pw kc ks Q nL tgt L st) (kf : ¬ (x ≤ 0) → Rg p l e R s m args below meth c Pw kc ks Q nL (pc + 3) L st) : Rg p l e R s m args below meth c Pw kc ks Q nL pc L (.inl x :: st) := by
  intro ads H locs ls cst hW hL hv
  obtain ⟨hx, hb, -⟩ := hC
  match cst, hv with
  | cv :: cst, hv =>
    obtain ⟨hxr, rfl⟩ := vr_int hv.1
    have hyr := in0
    have hi := i32_le hxr hyr
    rw [i32_zero] at hi
    exact lv_if_le hx hb hd ht (fun h => kt (hi.mp h) ads H locs ls _ hW hL hv.2) (fun h => kf (fun h2 => h (hi.mpr h2)) ads H locs ls _ hW hL hv.2)
theorem rl_icmp_le {x y : Int} {off : Int} {tgt : Nat} (hC : Cx 12 cc nL false p s m args meth c A D cI cZ) (hd : decode cc pc = .ok (.if_icmp .le off, 3)) (ht : (pc : Int) + off = (tgt : Int))
    (kt : x ≤ y → Rg p l e R s m args below meth c Pw kc ks Q nL tgt L st) (kf : ¬ (x ≤ y) → Rg p l e R s m args below meth c Pw kc ks Q nL (pc + 3) L st) : Rg p l e R s m args below meth c Pw kc ks Q nL pc L (.inl y :: .inl x :: st) := by
  intro ads H locs ls cst hW hL hv
  obtain ⟨hx, hb, -⟩ := hC
  match cst, hv with
  | cw :: cv :: cst, hv =>
    obtain ⟨hyr, rfl⟩ := vr_int hv.1
    obtain ⟨hxr, rfl⟩ := vr_int hv.2.1
    have hi := i32_le hxr hyr
    exact lv_icmp_le hx hb hd ht (fun h => kt (hi.mp h) ads H locs ls _ hW hL hv.2.2) (fun h => kf (fun h2 => h (hi.mpr h2)) ads H locs ls _ hW hL hv.2.2)
  | [cy], hv => exact hv.2.elim
end RL2
/-! the law's helpers over one compiler's cells -/
theorem clw0 : Cond.classLink "PatternforgeLaw" 13 (exN 0) ∈ TB := tb_at 375 (by decide +kernel) (by decide +kernel)
theorem clw1 : Cond.classLink "PatternforgeLaw" 16 (exN 1) ∈ TB := tb_at 376 (by decide +kernel) (by decide +kernel)
theorem clw2 : Cond.classLink "PatternforgeLaw" 19 (exN 2) ∈ TB := tb_at 377 (by decide +kernel) (by decide +kernel)
def wsH (y : MethodName) (bytes : ByteArray) (maxL : Nat) (hh : List (Nat × Nat × Nat × Nat)) : List Cond := .codeWith y bytes maxL (some .int) hh :: TB
section RW
variable {p : Program} {l : Launch} {e : Env} {R : Room} {s : State} {m : MethodId} {args : Array Value} {below : List Frame} {meth : Method} {c : Code} {D : va_G} {cI cZ : ClassId} {Q : State → Prop}
variable {cc : ByteArray} {nL : Nat} {ax : List Nat} {pc : Nat} {L : List (Option AV)} {st : List AV} {σ σ' : Sg}
/-- the world of a helper's walk -/
def PwN (D : va_G) (cI cZ : ClassId) (ax : List Nat) (s : State) (σ : Sg) : List Nat → Heap → List Loc → Prop := fun ads H locs => ads = ax ∧ WH s (AA ax s.heap.size) D cI cZ ax ax (LAYC, σ) H locs
theorem PwN.back {H H1 : Heap} {ads' : List Nat} {locs locs1 : List Loc} {t : State} (hl : ax.length = LAYC.length) (hA : ∀ q : Nat, s.heap.size ≤ q → AA ax s.heap.size q) (h : WH s (AA ax s.heap.size) D cI cZ ax ax (LAYC, σ) H locs) (ht : t.heap = H1) (hB : BW D cI cZ (AA ax H.size) ax (LAYC, σ') ads' t) (hS : va_S (AA ax s.heap.size) s.heap H1 locs1) : PwN D cI cZ ax s σ' ax H1 locs1 := by
  have h9 := back_world h hA ht hB hS
  obtain ⟨z, hz⟩ := hB.2.2.2.2.2
  have hz0 : z = [] := by
    have := congrArg List.length hz
    have h8 : ads'.length = LAYC.length := hB.2.2.2.1
    rw [List.length_append, h8, hl] at this
    exact List.eq_nil_of_length_eq_zero (by omega)
  rw [hz0, List.append_nil] at hz
  rw [← hz] at h9
  exact ⟨rfl, h9⟩
theorem wr_call {M1 : Mr} {idx n d d1 : Nat} {as : List AV} {z : Option AV ⊕ Nat} (hC : Cx 12 cc nL false p s m args meth c (AA ax s.heap.size) D cI cZ) (hax : ax.length = LAYC.length) (hRf : R.frames = d) (hRl : R.locals = 40 * d) (hRc : 1 ≤ R.cells) (hRs : 6 ≤ R.slots) (hd : decode cc pc = .ok (.invokevirtual idx, 3)) (hl : Cond.methodLink (ownN 12) idx M1.2.1 ∈ TB) (hs : Cond.instanceMethod M1.2.1 ∈ TB ∧ Cond.selects M1.2.1.cls M1.2.1 M1.2.1 ∈ TB) (hm : MOK M1.2.1 M1.2.2.1 M1.2.2.2.1 M1.2.2.2.2 n) (hy : M1.2.1.cls = ownN 10) (hn : as.length = n) (hst : st.length ≤ 8) (hd1 : d1 + 1 ≤ d)
    (hTH : TH (AA ax s.heap.size) s s.heap) (hct : outZ z l d1 M1.2.1 M1.2.2.1 M1.2.2.2.1 M1.2.2.2.2 (.inr 0 :: as) (LAYC, σ) (LAYC, σ'))
    (hz : ∀ v, z = .inl v → ∃ x, v = some (.inl x))
    (kv : ∀ v, z = .inl (some (.inl v)) → Rg p l e R s m args below meth c (PwN D cI cZ ax s σ') 0 0 Q nL (pc + 3) L (.inl v :: st))
    (kx : ∀ E, z = .inr E → ∀ (H1 : Heap) (locs1 : List Loc) (ls : Array Slot) (crest : List Value) (ce : Cell) (q9 : Addr), PwN D cI cZ ax s σ' ax H1 locs1 → lrs ax nL L ls → H1[q9]? = some ce → ce.vm = .none → s.vm.findClass (exN E) = some ce.cls → vx_W p l e R s m args below meth c H1 locs1 1 6 Q (F0 m pc ls crest) q9)
    (st0 : List AV) (hs0 : st0 = (.inr 0 :: as).reverse ++ st) : Rg p l e R s m args below meth c (PwN D cI cZ ax s σ) 0 0 Q nL pc L st0 := by
  intro ads H locs ls cst hP hL hv
  subst hs0
  obtain ⟨rfl, hW⟩ := hP
  obtain ⟨cr, crest, rfl, h1, h2⟩ := vrs_app hv
  have h3 := vrs_rev h1
  rw [List.reverse_reverse] at h3
  have hA := hC.2.2.2.2.2.2.2.2
  have hsub := AA_sub hW hA
  have hk0 : LAYC[0]? = some (10, [3, 7, 12, 24, 26, 29, 34, 35, 45, 51]) := rfl
  match z, hct, hz, kv, kx with
  | .inr E, hct, _, _, kx =>
    have hTH2 : TH (AA ads H.size) s H := (hTH.kept hW.2.2.1.2.1).narrow hsub
    have hrun := callGX_V (ls := ls) (S := (LAYC, σ)) (ads0 := ads) (l := l) (e := e) (below := below) (st := st) hC hRf hRl hd hl hs hm (by decide) hy hk0 hn hst hd1 ads H locs 0 0 cr.reverse crest E (LAYC, σ') hW hTH2 h3 h2 hL.1 hct (by omega) (by omega)
    rw [List.reverse_reverse] at hrun
    refine vx_callv (a := cr.reverse.toArray) hrun hW.2.2.1 (fun q _ h => hsub q h) hsub (fun q _ h => hsub q h) (fun E' ce q9 u t H1 locs1 ht hal _ hB _ hq hS hce hcv hcl9 => ?_) (fun u t H1 locs1 _ _ hp _ _ _ _ => hp.elim)
    obtain ⟨hE, hB⟩ := hB
    subst hE
    exact kx E rfl H1 locs1 ls crest ce q9 (PwN.back hax hA hW ht hB hS) hL hce hcv hcl9
  | .inl v, hct, hz, kv, _ =>
    obtain ⟨x, rfl⟩ := hz v rfl
    have hrun := callG_V (ls := ls) (S := (LAYC, σ)) (ads0 := ads) (l := l) (e := e) (below := below) (st := st) hC hRf hRl hd hl hs hm (by decide) hy hk0 hn hst hd1 ads H locs 0 0 cr.reverse crest (some (.inl x)) (LAYC, σ') hW h3 h2 hL.1 hct (show 0 + (LAYC.length - LAYC.length) ≤ _ by rw [Nat.sub_self]; exact Nat.zero_le _) (show 0 + (nSl LAYC - nSl LAYC) ≤ _ by rw [Nat.sub_self]; exact Nat.zero_le _)
    rw [List.reverse_reverse] at hrun
    refine va_calli (a := cr.reverse.toArray) hrun hW.2.2.1 (fun q _ h => hsub q h) hsub (fun r u t H1 locs1 ht _ hp hB _ hq hS => ?_)
    rw [hp.1, show 0 + ((LAYC, σ').1.length - (LAYC, σ).1.length) = 0 from (by show 0 + (LAYC.length - LAYC.length) = 0; rw [Nat.sub_self]), show 0 + (nSl (LAYC, σ').1 - nSl (LAYC, σ).1) = 0 from (by show 0 + (nSl LAYC - nSl LAYC) = 0; rw [Nat.sub_self])]
    exact kv x rfl ads H1 locs1 ls _ (PwN.back hax hA hW ht hB hS) hL ⟨⟨hp.2, rfl⟩, h2⟩
theorem wr_iret {x : Int} {kc ks : Nat} (hC : Cx 12 cc nL false p s m args meth c (AA ax s.heap.size) D cI cZ) (hkc : kc ≤ 1) (hks : ks ≤ 6) (hd : decode cc pc = .ok (.ireturn, 1)) (hr : meth.sig.returnType = some .int) :
    Rg p l e R s m args below meth c (PwN D cI cZ ax s σ) kc ks (MQ below (QR D cI cZ (AA ax s.heap.size) ax (some (.inl x)) (LAYC, σ)) args s 1 6 (AA ax s.heap.size)) nL pc L [.inl x] := by
  intro ads H locs ls cst hP hL hv
  obtain ⟨rfl, hW⟩ := hP
  match cst, hv with
  | [cv], hv =>
    obtain ⟨hxr, rfl⟩ := vr_int hv.1
    refine W.widen (k := 1) (n := 6) hkc hks ?_
    exact W.iret hC.1 hC.2.1 hr (fun t ht hw => ⟨⟨_, ads, rfl, ⟨rfl, hxr⟩, ret_world hC hW ht hw⟩, hW.2.2.1.F ht⟩) hW.2.2.1.2.2 hd hC.2.2.2.2.2.1
  | _ :: _ :: _, hv => exact hv.2.elim
/-- an exception, taken -/
theorem wr_exc {k : Int} {E : Nat} {H : Heap} {locs : List Loc} {ls : Array Slot} {crest : List Value} {ce : Cell} {q9 : Addr} {j hpc ix : Nat} (hC : Cx 12 cc nL false p s m args meth c (AA ax s.heap.size) D cI cZ) (hN : NX s) (hP : PwN D cI cZ ax s σ ax H locs) (hL : lrs ax nL L ls) (hj : j < L.length) (hce : H[q9]? = some ce) (hcv : ce.vm = .none) (hcl : s.vm.findClass (exN E) = some ce.cls)
    (pre : List ExceptionTableEntry) (x : ExceptionTableEntry) (suf : List ExceptionTableEntry) (hsplit : c.exceptionTable.toList = pre ++ x :: suf) (hpass : ∀ z ∈ pre, z.catchType ≠ 0 ∧ ∃ nm : String, Cond.classLink "PatternforgeLaw" z.catchType nm ∈ TB ∧ va_Nc (exN E) nm s) (hx : covers x pc = true) (h0 : x.catchType ≠ 0) (hlk : Cond.classLink "PatternforgeLaw" x.catchType (exN E) ∈ TB) (hh : x.handlerPc = hpc)
    {n : Nat} (d0 : (n = 2 ∧ decode cc hpc = .ok (.astore j, 2)) ∨ (n = 1 ∧ ∃ i : Fin 4, i.val = j ∧ decode cc hpc = .ok (.astore_n i, 1))) (d1 : decode cc (hpc + n) = .ok (.ldc ix, 2)) (hkl : (12, ix, k) ∈ klk) (d2 : decode cc (hpc + n + 2) = .ok (.ireturn, 1)) (hk : inR k) (hr : meth.sig.returnType = some .int) :
    vx_W p l e R s m args below meth c H locs 1 6 (MQ below (QR D cI cZ (AA ax s.heap.size) ax (some (.inl k)) (LAYC, σ)) args s 1 6 (AA ax s.heap.size)) (F0 m pc ls crest) q9 := by
  obtain ⟨-, hW⟩ := hP
  have hts := hC.2.2.2.2.1
  refine vx_catch (own := "PatternforgeLaw") (name := exN E) hC.2.2.2.1 pre x suf hsplit (fun z hz => Or.inr ⟨(hpass z hz).1, (hpass z hz).2.imp (fun nm hnm => ⟨hts _ hnm.1, hnm.2⟩)⟩) hx h0 (hts _ hlk) (va_Nw.use rfl (hC.2.2.2.2.2.2.2.1.2.2.1 E)) hce hcv hcl ?_
  rw [hh]
  have fin : ∀ (ls' : Array Slot), W p l e R s m args below meth c H locs 1 6 (MQ below (QR D cI cZ (AA ax s.heap.size) ax (some (.inl k)) (LAYC, σ)) args s 1 6 (AA ax s.heap.size)) (F0 m (hpc + n) ls' []) := by
    intro ls'
    refine lv_ldc hC.1 hC.2.1 hC.2.2.2.1 (hts _ (klk_ok _ hkl)) d1 ?_
    exact W.iret hC.1 hC.2.1 hr (fun t ht hw => ⟨⟨_, ax, rfl, ⟨rfl, hk⟩, ret_world hC hW ht hw⟩, hW.2.2.1.F ht⟩) hW.2.2.1.2.2 d2 hC.2.2.2.2.2.1
  rcases d0 with ⟨rfl, d0⟩ | ⟨rfl, i, hi, d0⟩
  · exact lv_astore hC.1 hC.2.1 d0 (allv_has hL) (Nat.lt_of_lt_of_le hj hL.2.1) rfl (fun ls' _ => fin ls')
  · exact lv_astore_n hC.1 hC.2.1 d0 rfl (allv_has hL) (Nat.lt_of_lt_of_le (by rw [hi]; exact hj) hL.2.1) rfl (fun ls' _ => fin ls')
end RW
/-- what a helper gives: the answer, or an exception's number -/
def cdE (E : Nat) : Int := if E = 0 then -2000000001 else if E = 1 then -2000000002 else -2000000003
theorem cdE_in (E : Nat) : inR (cdE E) := by unfold cdE inR; split <;> (try split) <;> omega
def kL (es : List Nat) (r : Int ⊕ Nat) : Option Int := match r with
  | .inl v => some v
  | .inr E => if E ∈ es then some (cdE E) else none
def kLB (es : List Nat) (r : Bool ⊕ Nat) : Option Int := match r with
  | .inl v => some (b2i v)
  | .inr E => if E ∈ es then some (cdE E) else none
