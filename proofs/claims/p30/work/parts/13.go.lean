/-! the judgement of a run from a place of a method, with the machine inside -/
abbrev Mr : Type := Nat × MethodName × ByteArray × Nat × Option FieldType
def QY (lay : List Lay) (below : List Frame) (D : va_G) (cI cZ : ClassId) (A : Nat → Prop) (ads0 : List Nat) (args : Array Value) (s : State) (z : Option AV ⊕ Nat) (σ' : Sg) : State → Prop := QZ below D cI cZ A ads0 args s z (lay, fun _ _ => 0) (lay, σ')
def Go (l : Launch) (M : Mr) (d : Nat) (lay : List Lay) (z : Option AV ⊕ Nat) (σ' : Sg) (pc : Nat) (L : List (Option AV)) (st : List AV) (σ : Sg) : Prop :=
  ∀ (p : Program) (e : Env) (R : Room) (s : State) (m : MethodId) (args : Array Value) (below : List Frame) (meth : Method) (c : Code) (A : Nat → Prop) (D : va_G) (cI cZ : ClassId) (ads0 : List Nat),
    Cx M.1 M.2.2.1 M.2.2.2.1 (M.2.1.name == "<init>") p s m args meth c A D cI cZ → R.frames = d → R.locals = 40 * d → (∀ E, z = .inr E → HX R s c A ads0) → meth.sig.returnType = M.2.2.2.2 →
    Rn p l e R s m args below meth c A D cI cZ (QY lay below D cI cZ A ads0 args s z σ') M.2.2.2.1 ads0 lay.length (nSl lay) pc L st (lay, σ)
theorem go_co {l : Launch} {M : Mr} {d n : Nat} {lay : List Lay} {z : Option AV ⊕ Nat} {σ σ' : Sg} {as : List AV} (hm : MOK M.2.1 M.2.2.1 M.2.2.2.1 M.2.2.2.2 n) (hpl : ∀ E, z = .inr E → plainName M.2.1.cls = true) (hy : M.2.1.cls = ownN M.1) (hn : as.length ≤ M.2.2.2.1) (k : Go l M d lay z σ' 0 (entL M.2.2.2.1 as) [] σ) :
    outZ z l d M.2.1 M.2.2.1 M.2.2.2.1 M.2.2.2.2 as (lay, σ) (lay, σ') :=
  co_of hm hpl hy hn (fun p e R s m args below meth c A D cI cZ ads0 hC h1 h2 h3 h4 => by
    have := k p e R s m args below meth c A D cI cZ ads0 hC h1 h2 h3 h4
    cases z with
    | inl v => exact this
    | inr E => exact this)
theorem go_ct {l : Launch} {M : Mr} {d n : Nat} {lay : List Lay} {v : Option AV} {σ σ' : Sg} {as : List AV} (hm : MOK M.2.1 M.2.2.1 M.2.2.2.1 M.2.2.2.2 n) (hy : M.2.1.cls = ownN M.1) (hn : as.length ≤ M.2.2.2.1) (k : Go l M d lay (.inl v) σ' 0 (entL M.2.2.2.1 as) [] σ) :
    CT l d M.2.1 M.2.2.1 M.2.2.2.1 M.2.2.2.2 as (lay, σ) v (lay, σ') := go_co hm (fun E h => by cases h) hy hn k
section GO
variable {l : Launch} {M : Mr} {d : Nat} {lay : List Lay} {z : Option AV ⊕ Nat} {σ' : Sg} {pc : Nat} {L : List (Option AV)} {st : List AV} {σ : Sg}
theorem go_ops {ops : List OpR} {pc' : Nat} {L' : List (Option AV)} {st' : List AV} {σ1 : Sg} (ho : oks M.1 M.2.2.1 pc ops = true ∧ plen pc ops = pc') (hx : exs ops (L, st, (lay, σ)) = some (L', st', (lay, σ1)))
    (k : Go l M d lay z σ' pc' L' st' σ1) : Go l M d lay z σ' pc L st σ :=
  fun p e R s m args below meth c A D cI cZ ads0 hC h1 h2 h3 h4 => rn_ops hC ho hx (k p e R s m args below meth c A D cI cZ ads0 hC h1 h2 h3 h4)
theorem go_wk {L' : List (Option AV)} (h : lsub L' L) (k : Go l M d lay z σ' pc L' st σ) : Go l M d lay z σ' pc L st σ :=
  fun p e R s m args below meth c A D cI cZ ads0 hC h1 h2 h3 h4 => rn_wk h (k p e R s m args below meth c A D cI cZ ads0 hC h1 h2 h3 h4)
theorem go_goto {off : Int} {tgt : Nat} (hd : decode M.2.2.1 pc = .ok (.goto off, 3)) (ht : (pc : Int) + off = (tgt : Int)) (k : Go l M d lay z σ' tgt L st σ) : Go l M d lay z σ' pc L st σ :=
  fun p e R s m args below meth c A D cI cZ ads0 hC h1 h2 h3 h4 => rn_goto hC hd ht (k p e R s m args below meth c A D cI cZ ads0 hC h1 h2 h3 h4)
theorem go_if_eq {x : Int} {off : Int} {tgt : Nat} (hd : decode M.2.2.1 pc = .ok (.ifCond .eq off, 3)) (ht : (pc : Int) + off = (tgt : Int)) (kt : x = 0 → Go l M d lay z σ' tgt L st σ) (kf : ¬ (x = 0) → Go l M d lay z σ' (pc + 3) L st σ) : Go l M d lay z σ' pc L (.inl x :: st) σ :=
  fun p e R s m args below meth c A D cI cZ ads0 hC h1 h2 h3 h4 => rn_if_eq hC hd ht (fun h => kt h p e R s m args below meth c A D cI cZ ads0 hC h1 h2 h3 h4) (fun h => kf h p e R s m args below meth c A D cI cZ ads0 hC h1 h2 h3 h4)
theorem go_icmp_eq {x y : Int} {off : Int} {tgt : Nat} (hd : decode M.2.2.1 pc = .ok (.if_icmp .eq off, 3)) (ht : (pc : Int) + off = (tgt : Int)) (kt : x = y → Go l M d lay z σ' tgt L st σ) (kf : ¬ (x = y) → Go l M d lay z σ' (pc + 3) L st σ) : Go l M d lay z σ' pc L (.inl y :: .inl x :: st) σ :=
  fun p e R s m args below meth c A D cI cZ ads0 hC h1 h2 h3 h4 => rn_icmp_eq hC hd ht (fun h => kt h p e R s m args below meth c A D cI cZ ads0 hC h1 h2 h3 h4) (fun h => kf h p e R s m args below meth c A D cI cZ ads0 hC h1 h2 h3 h4)
theorem go_if_ne {x : Int} {off : Int} {tgt : Nat} (hd : decode M.2.2.1 pc = .ok (.ifCond .ne off, 3)) (ht : (pc : Int) + off = (tgt : Int)) (kt : ¬ x = 0 → Go l M d lay z σ' tgt L st σ) (kf : x = 0 → Go l M d lay z σ' (pc + 3) L st σ) : Go l M d lay z σ' pc L (.inl x :: st) σ :=
  fun p e R s m args below meth c A D cI cZ ads0 hC h1 h2 h3 h4 => rn_if_ne hC hd ht (fun h => kt h p e R s m args below meth c A D cI cZ ads0 hC h1 h2 h3 h4) (fun h => kf h p e R s m args below meth c A D cI cZ ads0 hC h1 h2 h3 h4)
theorem go_icmp_ne {x y : Int} {off : Int} {tgt : Nat} (hd : decode M.2.2.1 pc = .ok (.if_icmp .ne off, 3)) (ht : (pc : Int) + off = (tgt : Int)) (kt : ¬ x = y → Go l M d lay z σ' tgt L st σ) (kf : x = y → Go l M d lay z σ' (pc + 3) L st σ) : Go l M d lay z σ' pc L (.inl y :: .inl x :: st) σ :=
  fun p e R s m args below meth c A D cI cZ ads0 hC h1 h2 h3 h4 => rn_icmp_ne hC hd ht (fun h => kt h p e R s m args below meth c A D cI cZ ads0 hC h1 h2 h3 h4) (fun h => kf h p e R s m args below meth c A D cI cZ ads0 hC h1 h2 h3 h4)
theorem go_if_lt {x : Int} {off : Int} {tgt : Nat} (hd : decode M.2.2.1 pc = .ok (.ifCond .lt off, 3)) (ht : (pc : Int) + off = (tgt : Int)) (kt : x < 0 → Go l M d lay z σ' tgt L st σ) (kf : ¬ (x < 0) → Go l M d lay z σ' (pc + 3) L st σ) : Go l M d lay z σ' pc L (.inl x :: st) σ :=
  fun p e R s m args below meth c A D cI cZ ads0 hC h1 h2 h3 h4 => rn_if_lt hC hd ht (fun h => kt h p e R s m args below meth c A D cI cZ ads0 hC h1 h2 h3 h4) (fun h => kf h p e R s m args below meth c A D cI cZ ads0 hC h1 h2 h3 h4)
theorem go_icmp_lt {x y : Int} {off : Int} {tgt : Nat} (hd : decode M.2.2.1 pc = .ok (.if_icmp .lt off, 3)) (ht : (pc : Int) + off = (tgt : Int)) (kt : x < y → Go l M d lay z σ' tgt L st σ) (kf : ¬ (x < y) → Go l M d lay z σ' (pc + 3) L st σ) : Go l M d lay z σ' pc L (.inl y :: .inl x :: st) σ :=
  fun p e R s m args below meth c A D cI cZ ads0 hC h1 h2 h3 h4 => rn_icmp_lt hC hd ht (fun h => kt h p e R s m args below meth c A D cI cZ ads0 hC h1 h2 h3 h4) (fun h => kf h p e R s m args below meth c A D cI cZ ads0 hC h1 h2 h3 h4)
theorem go_if_ge {x : Int} {off : Int} {tgt : Nat} (hd : decode M.2.2.1 pc = .ok (.ifCond .ge off, 3)) (ht : (pc : Int) + off = (tgt : Int)) (kt : 0 ≤ x → Go l M d lay z σ' tgt L st σ) (kf : ¬ (0 ≤ x) → Go l M d lay z σ' (pc + 3) L st σ) : Go l M d lay z σ' pc L (.inl x :: st) σ :=
  fun p e R s m args below meth c A D cI cZ ads0 hC h1 h2 h3 h4 => rn_if_ge hC hd ht (fun h => kt h p e R s m args below meth c A D cI cZ ads0 hC h1 h2 h3 h4) (fun h => kf h p e R s m args below meth c A D cI cZ ads0 hC h1 h2 h3 h4)
theorem go_icmp_ge {x y : Int} {off : Int} {tgt : Nat} (hd : decode M.2.2.1 pc = .ok (.if_icmp .ge off, 3)) (ht : (pc : Int) + off = (tgt : Int)) (kt : y ≤ x → Go l M d lay z σ' tgt L st σ) (kf : ¬ (y ≤ x) → Go l M d lay z σ' (pc + 3) L st σ) : Go l M d lay z σ' pc L (.inl y :: .inl x :: st) σ :=
  fun p e R s m args below meth c A D cI cZ ads0 hC h1 h2 h3 h4 => rn_icmp_ge hC hd ht (fun h => kt h p e R s m args below meth c A D cI cZ ads0 hC h1 h2 h3 h4) (fun h => kf h p e R s m args below meth c A D cI cZ ads0 hC h1 h2 h3 h4)
theorem go_if_gt {x : Int} {off : Int} {tgt : Nat} (hd : decode M.2.2.1 pc = .ok (.ifCond .gt off, 3)) (ht : (pc : Int) + off = (tgt : Int)) (kt : 0 < x → Go l M d lay z σ' tgt L st σ) (kf : ¬ (0 < x) → Go l M d lay z σ' (pc + 3) L st σ) : Go l M d lay z σ' pc L (.inl x :: st) σ :=
  fun p e R s m args below meth c A D cI cZ ads0 hC h1 h2 h3 h4 => rn_if_gt hC hd ht (fun h => kt h p e R s m args below meth c A D cI cZ ads0 hC h1 h2 h3 h4) (fun h => kf h p e R s m args below meth c A D cI cZ ads0 hC h1 h2 h3 h4)
theorem go_icmp_gt {x y : Int} {off : Int} {tgt : Nat} (hd : decode M.2.2.1 pc = .ok (.if_icmp .gt off, 3)) (ht : (pc : Int) + off = (tgt : Int)) (kt : y < x → Go l M d lay z σ' tgt L st σ) (kf : ¬ (y < x) → Go l M d lay z σ' (pc + 3) L st σ) : Go l M d lay z σ' pc L (.inl y :: .inl x :: st) σ :=
  fun p e R s m args below meth c A D cI cZ ads0 hC h1 h2 h3 h4 => rn_icmp_gt hC hd ht (fun h => kt h p e R s m args below meth c A D cI cZ ads0 hC h1 h2 h3 h4) (fun h => kf h p e R s m args below meth c A D cI cZ ads0 hC h1 h2 h3 h4)
theorem go_if_le {x : Int} {off : Int} {tgt : Nat} (hd : decode M.2.2.1 pc = .ok (.ifCond .le off, 3)) (ht : (pc : Int) + off = (tgt : Int)) (kt : x ≤ 0 → Go l M d lay z σ' tgt L st σ) (kf : ¬ (x ≤ 0) → Go l M d lay z σ' (pc + 3) L st σ) : Go l M d lay z σ' pc L (.inl x :: st) σ :=
  fun p e R s m args below meth c A D cI cZ ads0 hC h1 h2 h3 h4 => rn_if_le hC hd ht (fun h => kt h p e R s m args below meth c A D cI cZ ads0 hC h1 h2 h3 h4) (fun h => kf h p e R s m args below meth c A D cI cZ ads0 hC h1 h2 h3 h4)
theorem go_icmp_le {x y : Int} {off : Int} {tgt : Nat} (hd : decode M.2.2.1 pc = .ok (.if_icmp .le off, 3)) (ht : (pc : Int) + off = (tgt : Int)) (kt : x ≤ y → Go l M d lay z σ' tgt L st σ) (kf : ¬ (x ≤ y) → Go l M d lay z σ' (pc + 3) L st σ) : Go l M d lay z σ' pc L (.inl y :: .inl x :: st) σ :=
  fun p e R s m args below meth c A D cI cZ ads0 hC h1 h2 h3 h4 => rn_icmp_le hC hd ht (fun h => kt h p e R s m args below meth c A D cI cZ ads0 hC h1 h2 h3 h4) (fun h => kf h p e R s m args below meth c A D cI cZ ads0 hC h1 h2 h3 h4)
theorem b2i_e0 {b : Bool} (h : b2i b = 0) : ¬ b = true := fun hb => b2i_ne0 hb h
theorem b2i_n0 {b : Bool} (h : ¬ b2i b = 0) : b = true := by cases b with
  | true => rfl
  | false => exact absurd rfl h
/-- of a truth value: behind, where it is -/
theorem go_ifb_eq {x : Bool} {off : Int} {tgt : Nat} (hd : decode M.2.2.1 pc = .ok (.ifCond .eq off, 3)) (ht : (pc : Int) + off = (tgt : Int)) (kt : ¬ x = true → Go l M d lay z σ' tgt L st σ) (kf : x = true → Go l M d lay z σ' (pc + 3) L st σ) : Go l M d lay z σ' pc L (.inl (b2i x) :: st) σ :=
  go_if_eq hd ht (fun h => kt (b2i_e0 h)) (fun h => kf (b2i_n0 h))
theorem go_ifb_ne {x : Bool} {off : Int} {tgt : Nat} (hd : decode M.2.2.1 pc = .ok (.ifCond .ne off, 3)) (ht : (pc : Int) + off = (tgt : Int)) (kt : x = true → Go l M d lay z σ' tgt L st σ) (kf : ¬ x = true → Go l M d lay z σ' (pc + 3) L st σ) : Go l M d lay z σ' pc L (.inl (b2i x) :: st) σ :=
  go_if_ne hd ht (fun h => kt (b2i_n0 h)) (fun h => kf (b2i_e0 h))
/-- rows -/
theorem go_rd {k n : Nat} {i x : Int} (hd : decode M.2.2.1 pc = .ok (.iaload, 1)) (hk : lay[k]? = some (12, [n])) (hx : rdn n σ k i = some x) (kk : Go l M d lay z σ' (pc + 1) L (.inl x :: st) σ) : Go l M d lay z σ' pc L (.inl i :: .inr k :: st) σ :=
  fun p e R s m args below meth c A D cI cZ ads0 hC h1 h2 h3 h4 => rn_rd hC hd hk hx (kk p e R s m args below meth c A D cI cZ ads0 hC h1 h2 h3 h4)
theorem go_wr {k n : Nat} {i x : Int} {σ1 : Sg} (hd : decode M.2.2.1 pc = .ok (.iastore, 1)) (hk : lay[k]? = some (12, [n])) (hx : wrn n σ k i x = some σ1) (kk : Go l M d lay z σ' (pc + 1) L st σ1) : Go l M d lay z σ' pc L (.inl x :: .inl i :: .inr k :: st) σ :=
  fun p e R s m args below meth c A D cI cZ ads0 hC h1 h2 h3 h4 => rn_wr hC hd hk hx (kk p e R s m args below meth c A D cI cZ ads0 hC h1 h2 h3 h4)
/-- the same of a truth value: no question of its being one -/
theorem wbn_b {n : Nat} {σ : Sg} {k : Nat} {i : Int} {b : Bool} {σ1 : Sg} (h : wrn n σ k i (b2i b) = some σ1) : wbn n σ k i (b2i b) = some σ1 := by
  obtain ⟨h1, h2, rfl⟩ := wrn_inv h
  unfold wbn
  rw [if_pos ⟨⟨h1, h2⟩, (b2i_01 b).imp id id⟩]
theorem go_pfb {idx ci sl k : Nat} {q : List Nat} {b : Bool} {σ1 : Sg} (hd : decode M.2.2.1 pc = .ok (.putfield idx, 3)) (hf : (M.1, idx, ci, sl) ∈ flk) (hci : ci < 12) (hk : lay[k]? = some (ci, q)) (hs : q[sl]? = some 0) (ht : ftc ci sl = 1) (hfin : fFin ci sl = false) (he : σ1 = up2 σ k sl (b2i b)) (kk : Go l M d lay z σ' (pc + 3) L st σ1) : Go l M d lay z σ' pc L (.inl (b2i b) :: .inr k :: st) σ :=
  fun p e R s m args below meth c A D cI cZ ads0 hC h1 h2 h3 h4 => rn_putI hC hd hf hci hk hs (Or.inr ⟨ht, b2i_01 b⟩) (Or.inl hfin) (he ▸ kk p e R s m args below meth c A D cI cZ ads0 hC h1 h2 h3 h4)
/-- division -/
theorem go_rem {x y : Int} (hd : decode M.2.2.1 pc = .ok (.irem, 1)) (hne : ¬ y = 0) (kk : Go l M d lay z σ' (pc + 1) L (.inl (jrem x y) :: st) σ) : Go l M d lay z σ' pc L (.inl y :: .inl x :: st) σ :=
  fun p e R s m args below meth c A D cI cZ ads0 hC h1 h2 h3 h4 => rn_irem hC hd hne (kk p e R s m args below meth c A D cI cZ ads0 hC h1 h2 h3 h4)
theorem go_div {x y : Int} (hd : decode M.2.2.1 pc = .ok (.idiv, 1)) (hne : ¬ y = 0) (kk : Go l M d lay z σ' (pc + 1) L (.inl (jdiv x y) :: st) σ) : Go l M d lay z σ' pc L (.inl y :: .inl x :: st) σ :=
  fun p e R s m args below meth c A D cI cZ ads0 hC h1 h2 h3 h4 => rn_idiv hC hd hne (kk p e R s m args below meth c A D cI cZ ads0 hC h1 h2 h3 h4)
def jremO (x y : Int) : Option Int := if y = 0 then none else some (jrem x y)
theorem jremO_inv {x y v : Int} (h : jremO x y = some v) : ¬ y = 0 ∧ v = jrem x y := by
  unfold jremO at h; split at h
  · cases h
  · cases h; exact ⟨by assumption, rfl⟩
theorem go_remO {x y v : Int} (hd : decode M.2.2.1 pc = .ok (.irem, 1)) (hx : jremO x y = some v) (kk : Go l M d lay z σ' (pc + 1) L (.inl v :: st) σ) : Go l M d lay z σ' pc L (.inl y :: .inl x :: st) σ := by
  obtain ⟨h1, rfl⟩ := jremO_inv hx
  exact go_rem hd h1 kk
/-- switches -/
def tsO (dflt lo hi : Int) (offs : Array Int) (x : Int) : Int := if x < lo ∨ hi < x then dflt else (offs[(x - lo).toNat]?).getD dflt
theorem go_tsw {x dflt lo hi : Int} {offs : Array Int} {len : Nat} {off : Int} {tgt : Nat} (hd : decode M.2.2.1 pc = .ok (.tableswitch dflt lo hi offs, len)) (hlen : (hi - lo + 1).toNat ≤ offs.size) (hlh : lo ≤ hi) (ho : tsO dflt lo hi offs x = off) (ht : (pc : Int) + off = (tgt : Int)) (k : Go l M d lay z σ' tgt L st σ) : Go l M d lay z σ' pc L (.inl x :: st) σ := by
  intro p e R s m args below meth c A D cI cZ ads0 hC h1 h2 h3 h4
  have kk := k p e R s m args below meth c A D cI cZ ads0 hC h1 h2 h3 h4
  unfold tsO at ho
  by_cases hx : x < lo ∨ hi < x
  · rw [if_pos hx] at ho
    subst ho
    exact rn_tswOut hC hd hx ht kk
  · rw [if_neg hx] at ho
    have hlt : (x - lo).toNat < offs.size := by omega
    have h9 : offs[(x - lo).toNat]? = some off := by rw [Array.getElem?_eq_getElem hlt] at ho ⊢; rw [← ho]; rfl
    exact rn_tswIn hC hd (by omega) (by omega) h9 ht kk
theorem nn0 {x : Int} : ∀ k ∈ ([] : List Int), ¬ x = k := fun _ h => nomatch h
theorem nn1 {x k0 : Int} {ks : List Int} (h0 : ¬ x = k0) (h : ∀ k ∈ ks, ¬ x = k) : ∀ k ∈ k0 :: ks, ¬ x = k := fun k hk => by
  rcases List.mem_cons.mp hk with rfl | hk
  · exact h0
  · exact h k hk
theorem ts_d {dflt lo hi : Int} {offs : Array Int} {x : Int} (ks : List Int) (hn : ∀ k ∈ ks, ¬ x = k) (h : (List.range (hi - lo + 1).toNat).all (fun i => decide ((offs[i]?).getD dflt = dflt) || ks.contains (lo + i)) = true) : tsO dflt lo hi offs x = dflt := by
  unfold tsO
  by_cases hx : x < lo ∨ hi < x
  · rw [if_pos hx]
  · rw [if_neg hx]
    have h1 := List.all_eq_true.mp h (x - lo).toNat (List.mem_range.mpr (by omega))
    simp only [Bool.or_eq_true, decide_eq_true_eq] at h1
    rcases h1 with h1 | h1
    · exact h1
    · have h2 : lo + ((x - lo).toNat : Int) = x := by omega
      rw [h2] at h1
      exact absurd rfl (hn x (by simpa using h1))
theorem tsk {dflt lo hi : Int} {offs : Array Int} {x k off : Int} (h : x = k) (h2 : tsO dflt lo hi offs k = off) : tsO dflt lo hi offs x = off := by rw [h]; exact h2
theorem lsk {dflt : Int} {ps : List (Int × Int)} {x k off : Int} (h : x = k) (h2 : Op.lookupswitch.offset ps dflt k = off) : Op.lookupswitch.offset ps dflt x = off := by rw [h]; exact h2
theorem ls_d {dflt : Int} {x : Int} : ∀ {ps : List (Int × Int)} (ks : List Int), (∀ k ∈ ks, ¬ x = k) → ps.all (fun q => decide (q.1 ∈ ks)) = true → Op.lookupswitch.offset ps dflt x = dflt
  | [], ks, _, _ => rfl
  | (a, o) :: r, ks, hn, hp => by
    simp only [List.all_cons, Bool.and_eq_true, decide_eq_true_eq] at hp
    rw [Op.lookupswitch.offset_cons, if_neg (fun h => hn a hp.1 (by first | exact h | exact h.symm))]
    exact ls_d ks hn hp.2
def lsO (dflt : Int) (ps : Array (Int × Int)) (x : Int) : Int := Op.lookupswitch.offset ps.toList dflt x
theorem go_lsw {x dflt : Int} {ps : Array (Int × Int)} {len : Nat} {off : Int} {tgt : Nat} (hd : decode M.2.2.1 pc = .ok (.lookupswitch dflt ps, len)) (hp : (ps.toList.zip (ps.toList.drop 1)).all (fun (a, next) => a.1 < next.1) = true) (ho : Op.lookupswitch.offset ps.toList dflt x = off) (ht : (pc : Int) + off = (tgt : Int)) (k : Go l M d lay z σ' tgt L st σ) : Go l M d lay z σ' pc L (.inl x :: st) σ :=
  fun p e R s m args below meth c A D cI cZ ads0 hC h1 h2 h3 h4 => rn_lsw hC hd hp ho ht (k p e R s m args below meth c A D cI cZ ads0 hC h1 h2 h3 h4)
/-- returns -/
theorem go_iret {x : Int} (hd : decode M.2.2.1 pc = .ok (.ireturn, 1)) (hr : M.2.2.2.2 = some .int) : Go l M d lay (.inl (some (.inl x))) σ pc L [.inl x] σ :=
  fun p e R s m args below meth c A D cI cZ ads0 hC h1 h2 h3 h4 => rn_iret hC hd (h4.trans hr)
theorem go_zret {x : Bool} (hd : decode M.2.2.1 pc = .ok (.ireturn, 1)) (hr : M.2.2.2.2 = some .boolean) : Go l M d lay (.inl (some (.inl (b2i x)))) σ pc L [.inl (b2i x)] σ :=
  fun p e R s m args below meth c A D cI cZ ads0 hC h1 h2 h3 h4 => rn_zret hC hd (h4.trans hr) (b2i_01 x)
theorem go_vret (hd : decode M.2.2.1 pc = .ok (.return_, 1)) (hr : M.2.2.2.2 = none) : Go l M d lay (.inl none) σ pc L [] σ :=
  fun p e R s m args below meth c A D cI cZ ads0 hC h1 h2 h3 h4 => rn_vret hC hd (h4.trans hr)
theorem go_aret {k : Nat} {n : String} (hd : decode M.2.2.1 pc = .ok (.areturn, 1)) (hr : M.2.2.2.2 = some (.object n)) : Go l M d lay (.inl (some (.inr k))) σ pc L [.inr k] σ :=
  fun p e R s m args below meth c A D cI cZ ads0 hC h1 h2 h3 h4 => rn_aret hC hd (h4.trans hr) (Or.inl ⟨n, rfl⟩)
/-! calls -/
section CALL
variable {M1 : Mr} {n idx d1 : Nat} {as : List AV} {v : Option AV} {σ1 : Sg}

theorem go_S (hd : decode M.2.2.1 pc = .ok (.invokestatic idx, 3)) (hl : Cond.methodLink (ownN M.1) idx M1.2.1 ∈ TB) (hs : Cond.static M1.2.1 ∈ TB) (hm : MOK M1.2.1 M1.2.2.1 M1.2.2.2.1 M1.2.2.2.2 n) (hn : as.length = n) (hst : st.length ≤ 8) (hd1 : d1 + 1 ≤ d) (hct : CT l d1 M1.2.1 M1.2.2.1 M1.2.2.2.1 M1.2.2.2.2 as (lay, σ) v (lay, σ1)) (st0 : List AV) (hs0 : st0 = List.reverse as ++ st) (kk : Go l M d lay z σ' (pc + 3) L (pushR v st) σ1) : Go l M d lay z σ' pc L st0 σ :=
  fun p e R s m args below meth c A D cI cZ ads0 hC h1 h2 h3 h4 => rn_call hC (fun ls => callG_S hC h1 h2 hd hl hs hm hn hst hd1) hct st0 hs0 (Nat.le_refl _) (Nat.le_refl _) (Nat.le_refl _) (Nat.le_refl _) (Nat.le_add_right _ _) (Nat.le_add_right _ _) (kk p e R s m args below meth c A D cI cZ ads0 hC h1 h2 h3 h4)
theorem go_SN {host : String} (hd : decode M.2.2.1 pc = .ok (.invokestatic idx, 3)) (hl : (ownN M.1, idx, M1.2.1, host) ∈ NL) (hs : Cond.static M1.2.1 ∈ TB) (hm : MOK M1.2.1 M1.2.2.1 M1.2.2.2.1 M1.2.2.2.2 n) (hn : as.length = n) (hst : st.length ≤ 8) (hd1 : d1 + 1 ≤ d) (hct : CT l d1 M1.2.1 M1.2.2.1 M1.2.2.2.1 M1.2.2.2.2 as (lay, σ) v (lay, σ1)) (st0 : List AV) (hs0 : st0 = List.reverse as ++ st) (kk : Go l M d lay z σ' (pc + 3) L (pushR v st) σ1) : Go l M d lay z σ' pc L st0 σ :=
  fun p e R s m args below meth c A D cI cZ ads0 hC h1 h2 h3 h4 => rn_call hC (fun ls => callG_SN hC h1 h2 hd hl hs hm hn hst hd1) hct st0 hs0 (Nat.le_refl _) (Nat.le_refl _) (Nat.le_refl _) (Nat.le_refl _) (Nat.le_add_right _ _) (Nat.le_add_right _ _) (kk p e R s m args below meth c A D cI cZ ads0 hC h1 h2 h3 h4)
theorem go_V {ci k : Nat} {q : List Nat} (hd : decode M.2.2.1 pc = .ok (.invokevirtual idx, 3)) (hl : Cond.methodLink (ownN M.1) idx M1.2.1 ∈ TB) (hs : Cond.instanceMethod M1.2.1 ∈ TB ∧ Cond.selects M1.2.1.cls M1.2.1 M1.2.1 ∈ TB) (hci : ci < 12) (hy : M1.2.1.cls = ownN ci) (hk : lay[k]? = some (ci, q)) (hm : MOK M1.2.1 M1.2.2.1 M1.2.2.2.1 M1.2.2.2.2 n) (hn : as.length = n) (hst : st.length ≤ 8) (hd1 : d1 + 1 ≤ d) (hct : CT l d1 M1.2.1 M1.2.2.1 M1.2.2.2.1 M1.2.2.2.2 (.inr k :: as) (lay, σ) v (lay, σ1)) (st0 : List AV) (hs0 : st0 = List.reverse (.inr k :: as) ++ st) (kk : Go l M d lay z σ' (pc + 3) L (pushR v st) σ1) : Go l M d lay z σ' pc L st0 σ :=
  fun p e R s m args below meth c A D cI cZ ads0 hC h1 h2 h3 h4 => rn_call hC (fun ls => callG_V hC h1 h2 hd hl hs hm hci hy hk hn hst hd1) hct st0 hs0 (Nat.le_refl _) (Nat.le_refl _) (Nat.le_refl _) (Nat.le_refl _) (Nat.le_add_right _ _) (Nat.le_add_right _ _) (kk p e R s m args below meth c A D cI cZ ads0 hC h1 h2 h3 h4)
theorem go_SX {E : Nat} (hd : decode M.2.2.1 pc = .ok (.invokestatic idx, 3)) (hl : Cond.methodLink (ownN M.1) idx M1.2.1 ∈ TB) (hs : Cond.static M1.2.1 ∈ TB) (hyc : M1.2.1.cls = ownN M.1) (hm : MOK M1.2.1 M1.2.2.1 M1.2.2.2.1 M1.2.2.2.2 n) (hn : as.length = n) (hst : st.length ≤ 8) (hd1 : d1 + 1 ≤ d) (hct : CX l d1 M1.2.1 M1.2.2.1 M1.2.2.2.1 M1.2.2.2.2 as (lay, σ) E (lay, σ1)) (st0 : List AV) (hs0 : st0 = List.reverse as ++ st) : Go l M d lay (.inr E) σ1 pc L st0 σ :=
  fun p e R s m args below meth c A D cI cZ ads0 hC h1 h2 h3 h4 => by
    obtain ⟨⟨h5, h6⟩, h7, h8, h9⟩ := h3 E rfl
    exact rn_callX hC h8 h7 (fun ls => callGX_S hC h1 h2 hd hl hs hyc hm hn hst hd1) hct st0 hs0 rfl rfl h5 h6 h9
theorem go_VX {ci k : Nat} {q : List Nat} {E : Nat} (hd : decode M.2.2.1 pc = .ok (.invokevirtual idx, 3)) (hl : Cond.methodLink (ownN M.1) idx M1.2.1 ∈ TB) (hs : Cond.instanceMethod M1.2.1 ∈ TB ∧ Cond.selects M1.2.1.cls M1.2.1 M1.2.1 ∈ TB) (hci : ci < 12) (hy : M1.2.1.cls = ownN ci) (hk : lay[k]? = some (ci, q)) (hm : MOK M1.2.1 M1.2.2.1 M1.2.2.2.1 M1.2.2.2.2 n) (hn : as.length = n) (hst : st.length ≤ 8) (hd1 : d1 + 1 ≤ d) (hct : CX l d1 M1.2.1 M1.2.2.1 M1.2.2.2.1 M1.2.2.2.2 (.inr k :: as) (lay, σ) E (lay, σ1)) (st0 : List AV) (hs0 : st0 = List.reverse (.inr k :: as) ++ st) : Go l M d lay (.inr E) σ1 pc L st0 σ :=
  fun p e R s m args below meth c A D cI cZ ads0 hC h1 h2 h3 h4 => by
    obtain ⟨⟨h5, h6⟩, h7, h8, h9⟩ := h3 E rfl
    exact rn_callX hC h8 h7 (fun ls => callGX_V hC h1 h2 hd hl hs hm hci hy hk hn hst hd1) hct st0 hs0 rfl rfl h5 h6 h9
end CALL
end GO
theorem go_iter {α β : Type} {f : α → Option (α ⊕ β)} {G : α → Prop} {K : β → Prop} (step : ∀ a w, f a = some w → Sum.elim G K w → G a) : ∀ (n : Nat) (a : α) (y : β), iter f n a = some y → K y → G a
  | 0, _, _, h, _ => by cases h
  | n + 1, a, y, h, hK => by
    obtain ⟨w, h1, h2⟩ := iter_step h
    refine step a w h1 ?_
    rcases h2 with ⟨a', rfl, h3⟩ | rfl
    · exact go_iter step n a' y h3 hK
    · exact hK
/-- a callee that may throw -/
def xb {V γ : Type} (m : Option ((V ⊕ Nat) × Sg)) (t : Nat → Sg → Option γ) (f : V → Sg → Option γ) : Option γ := match m with
  | none => none
  | some (.inl v, σ) => f v σ
  | some (.inr E, σ) => t E σ
theorem xb_inv {V γ : Type} {m : Option ((V ⊕ Nat) × Sg)} {t : Nat → Sg → Option γ} {f : V → Sg → Option γ} {z : γ} (h : xb m t f = some z) :
    (∃ E σ, m = some (.inr E, σ) ∧ t E σ = some z) ∨ ∃ v σ, m = some (.inl v, σ) ∧ f v σ = some z := by
  unfold xb at h
  split at h
  · cases h
  · exact Or.inr ⟨_, _, rfl, h⟩
  · exact Or.inl ⟨_, _, rfl, h⟩
def ozI (r : Int ⊕ Nat) : Option AV ⊕ Nat := match r with
  | .inl x => .inl (some (.inl x))
  | .inr E => .inr E
def ozB (r : Bool ⊕ Nat) : Option AV ⊕ Nat := match r with
  | .inl x => .inl (some (.inl (b2i x)))
  | .inr E => .inr E
def ozU (r : Unit ⊕ Nat) : Option AV ⊕ Nat := match r with
  | .inl _ => .inl none
  | .inr E => .inr E
def i2b (x : Int) : Option Bool := if x = 0 then some false else if x = 1 then some true else none
theorem i2b_inv {x : Int} {b : Bool} (h : i2b x = some b) : x = b2i b := by
  unfold i2b at h
  split at h
  · cases h; assumption
  · split at h
    · cases h; assumption
    · cases h
