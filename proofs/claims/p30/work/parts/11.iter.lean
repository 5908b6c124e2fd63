/-! the words of the read-off functions: loops, bindings, cells; and how a walk takes them apart -/
def iter {α β : Type} (f : α → Option (α ⊕ β)) : Nat → α → Option β
  | 0, _ => none
  | n + 1, a => match f a with
    | none => none
    | some (.inl a') => iter f n a'
    | some (.inr b) => some b
theorem iter_step {α β : Type} {f : α → Option (α ⊕ β)} {n : Nat} {a : α} {z : β} (h : iter f (n + 1) a = some z) :
    ∃ y, f a = some y ∧ ((∃ a', y = .inl a' ∧ iter f n a' = some z) ∨ y = .inr z) := by
  unfold iter at h
  split at h
  · cases h
  · rename_i a' hf; exact ⟨_, hf, Or.inl ⟨a', rfl, h⟩⟩
  · rename_i b hf; cases h; exact ⟨_, hf, Or.inr rfl⟩
theorem iter_mono {α β : Type} {f : α → Option (α ⊕ β)} : ∀ {n m : Nat} {a : α} {z : β}, iter f n a = some z → n ≤ m → iter f m a = some z
  | 0, _, _, _, h, _ => by cases h
  | n + 1, 0, _, _, _, hl => by omega
  | n + 1, m + 1, a, z, h, hl => by
    obtain ⟨y, h1, h2⟩ := iter_step h
    unfold iter
    rw [h1]
    rcases h2 with ⟨a', rfl, h3⟩ | rfl
    · exact iter_mono h3 (by omega)
    · rfl
/-- a loop comes to its end: an invariant and a measure -/
theorem iter_inv {α β : Type} {f : α → Option (α ⊕ β)} (I : α → Prop) (μ : α → Nat) (P : β → Prop)
    (hs : ∀ a, I a → (∃ a', f a = some (.inl a') ∧ I a' ∧ μ a' < μ a) ∨ ∃ b, f a = some (.inr b) ∧ P b) : ∀ (n : Nat) (a : α), I a → μ a < n → ∃ b, iter f n a = some b ∧ P b
  | 0, _, _, h => by omega
  | n + 1, a, hI, hn => by
    unfold iter
    rcases hs a hI with ⟨a', h1, h2, h3⟩ | ⟨b, h1, h2⟩
    · rw [h1]; exact iter_inv I μ P hs n a' h2 (by omega)
    · rw [h1]; exact ⟨b, rfl, h2⟩
def bnd {α β : Type} (x : α) (f : α → β) : β := f x
theorem bnd_inv {α β : Type} {x : α} {f : α → β} {z : β} (h : bnd x f = z) : ∃ y, y = x ∧ f y = z := ⟨x, rfl, h⟩
theorem bind_inv {α β : Type} {x : Option α} {f : α → Option β} {z : β} (h : x.bind f = some z) : ∃ y, x = some y ∧ f y = some z := by
  cases x with
  | none => cases h
  | some y => exact ⟨y, rfl, h⟩
theorem ite_inv {α : Type} {c : Prop} [Decidable c] {a b z : α} (h : (if c then a else b) = z) : (c ∧ a = z) ∨ (¬ c ∧ b = z) := by
  by_cases hc : c
  · rw [if_pos hc] at h; exact Or.inl ⟨hc, h⟩
  · rw [if_neg hc] at h; exact Or.inr ⟨hc, h⟩
theorem map_inv {α β : Type} {x : Option β} {y : α ⊕ β} (h : x.map Sum.inr = some y) : ∃ b, x = some b ∧ y = .inr b := by
  cases x with
  | none => cases h
  | some b => cases h; exact ⟨b, rfl, rfl⟩
/-- a callee that throws ends the caller -/
def xbnd {V W : Type} (m : Option ((V ⊕ Nat) × Sg)) (f : V → Sg → Option ((W ⊕ Nat) × Sg)) : Option ((W ⊕ Nat) × Sg) := match m with
  | none => none
  | some (.inl v, σ) => f v σ
  | some (.inr E, σ) => some (.inr E, σ)
theorem xbnd_inv {V W : Type} {m : Option ((V ⊕ Nat) × Sg)} {f : V → Sg → Option ((W ⊕ Nat) × Sg)} {z : (W ⊕ Nat) × Sg} (h : xbnd m f = some z) :
    (∃ v σ, m = some (.inl v, σ) ∧ f v σ = some z) ∨ ∃ E σ, m = some (.inr E, σ) ∧ z = (.inr E, σ) := by
  unfold xbnd at h
  split at h
  · cases h
  · exact Or.inl ⟨_, _, rfl, h⟩
  · cases h; exact Or.inr ⟨_, _, rfl, rfl⟩
/-- likewise in a loop -/
def xbnl {V W α : Type} (m : Option ((V ⊕ Nat) × Sg)) (f : V → Sg → Option (α ⊕ ((W ⊕ Nat) × Sg))) : Option (α ⊕ ((W ⊕ Nat) × Sg)) := match m with
  | none => none
  | some (.inl v, σ) => f v σ
  | some (.inr E, σ) => some (.inr (.inr E, σ))
theorem xbnl_inv {V W α : Type} {m : Option ((V ⊕ Nat) × Sg)} {f : V → Sg → Option (α ⊕ ((W ⊕ Nat) × Sg))} {z : α ⊕ ((W ⊕ Nat) × Sg)} (h : xbnl m f = some z) :
    (∃ v σ, m = some (.inl v, σ) ∧ f v σ = some z) ∨ ∃ E σ, m = some (.inr E, σ) ∧ z = .inr (.inr E, σ) := by
  unfold xbnl at h
  split at h
  · cases h
  · exact Or.inl ⟨_, _, rfl, h⟩
  · cases h; exact Or.inr ⟨_, _, rfl, rfl⟩
def b2i (b : Bool) : Int := if b = true then 1 else 0
theorem b2i_01 (b : Bool) : b2i b = 0 ∨ b2i b = 1 := by cases b <;> simp [b2i]
theorem b2i_ne0 {b : Bool} (h : b = true) : ¬ b2i b = 0 := by rw [h]; decide
theorem b2i_eq0 {b : Bool} (h : ¬ b = true) : b2i b = 0 := by unfold b2i; rw [if_neg h]
/-- reading and writing a row of n -/
def rdn (n : Nat) (σ : Sg) (k : Nat) (i : Int) : Option Int := if 0 ≤ i ∧ i < n then some (σ k i.toNat) else none
def wrn (n : Nat) (σ : Sg) (k : Nat) (i x : Int) : Option Sg := if 0 ≤ i ∧ i < n then some (up2 σ k i.toNat x) else none
def wbn (n : Nat) (σ : Sg) (k : Nat) (i x : Int) : Option Sg := if (0 ≤ i ∧ i < n) ∧ (x = 0 ∨ x = 1) then some (up2 σ k i.toNat x) else none
def pfb (σ : Sg) (k sl : Nat) (x : Int) : Option Sg := if x = 0 ∨ x = 1 then some (up2 σ k sl x) else none
def rdD (d : Int) (σ : Sg) (k n : Nat) (i : Int) : Int := if 0 ≤ i ∧ i < n then σ k i.toNat else d
def wrD (σ : Sg) (k n : Nat) (i x : Int) : Sg := if 0 ≤ i ∧ i < n then up2 σ k i.toNat x else σ
def fillF (σ : Sg) (k n : Nat) (x : Int) : Sg := fun a b => if a = k ∧ b < n then x else σ a b
theorem rdn_inv {n : Nat} {σ : Sg} {k : Nat} {i x : Int} (h : rdn n σ k i = some x) : 0 ≤ i ∧ i < n ∧ x = σ k i.toNat := by
  unfold rdn at h; split at h
  · cases h; exact ⟨by omega, by omega, rfl⟩
  · cases h
theorem wrn_inv {n : Nat} {σ σ' : Sg} {k : Nat} {i x : Int} (h : wrn n σ k i x = some σ') : 0 ≤ i ∧ i < n ∧ σ' = up2 σ k i.toNat x := by
  unfold wrn at h; split at h
  · cases h; exact ⟨by omega, by omega, rfl⟩
  · cases h
theorem wbn_inv {n : Nat} {σ σ' : Sg} {k : Nat} {i x : Int} (h : wbn n σ k i x = some σ') : 0 ≤ i ∧ i < n ∧ (x = 0 ∨ x = 1) ∧ σ' = up2 σ k i.toNat x := by
  unfold wbn at h; split at h
  · cases h; exact ⟨by omega, by omega, by omega, rfl⟩
  · cases h
theorem pfb_inv {σ σ' : Sg} {k sl : Nat} {x : Int} (h : pfb σ k sl x = some σ') : (x = 0 ∨ x = 1) ∧ σ' = up2 σ k sl x := by
  unfold pfb at h; split at h
  · cases h; exact ⟨by assumption, rfl⟩
  · cases h
/-- fewer known locals -/
def lsub : List (Option AV) → List (Option AV) → Prop
  | [], [] => True
  | none :: a, _ :: b => lsub a b
  | some v :: a, w :: b => w = some v ∧ lsub a b
  | _, _ => False
theorem lsub_get : ∀ {a b : List (Option AV)}, lsub a b → a.length = b.length ∧ ∀ (i : Nat) (v : AV), a[i]? = some (some v) → b[i]? = some (some v)
  | [], [], _ => ⟨rfl, fun i v h => by simp at h⟩
  | none :: a, w :: b, h => by
    obtain ⟨h1, h2⟩ := lsub_get (a := a) (b := b) h
    refine ⟨by simp [h1], fun i v hi => ?_⟩
    cases i with
    | zero => simp at hi
    | succ i => simp at hi ⊢; exact h2 i v hi
  | some u :: a, w :: b, h => by
    obtain ⟨h1, h2⟩ := lsub_get (a := a) (b := b) h.2
    refine ⟨by simp [h1], fun i v hi => ?_⟩
    cases i with
    | zero => simp at hi ⊢; rw [h.1, hi]
    | succ i => simp at hi ⊢; exact h2 i v hi
  | [], _ :: _, h => h.elim
  | none :: _, [], h => h.elim
  | some _ :: _, [], h => h.elim
def outZ (z : Option AV ⊕ Nat) (l : Launch) (d : Nat) (y : MethodName) (bytes : ByteArray) (maxL : Nat) (ret : Option FieldType) (as : List AV) (S S' : LSt) : Prop := match z with
  | .inl v => CT l d y bytes maxL ret as S v S'
  | .inr E => CX l d y bytes maxL ret as S E S'
def QZ (below : List Frame) (D : va_G) (cI cZ : ClassId) (A : Nat → Prop) (ads0 : List Nat) (args : Array Value) (s : State) (z : Option AV ⊕ Nat) (S S' : LSt) : State → Prop := match z with
  | .inl v => MQ below (QR D cI cZ A ads0 v S') args s (S'.1.length - S.1.length) (nSl S'.1 - nSl S.1) A
  | .inr E => vx_MQ below (va_Qv (fun _ : List Nat => False) (BW D cI cZ A ads0 S') A) (XO D cI cZ A ads0 E S') args s 1 6 A
/-- what a method that throws needs -/
def HX (R : Room) (s : State) (c : Code) (A : Nat → Prop) (ads0 : List Nat) : Prop := (1 ≤ R.cells ∧ 6 ≤ R.slots) ∧ (∀ x ∈ c.exceptionTable.toList, False) ∧ TH A s s.heap ∧ A = AA ads0 s.heap.size
theorem co_of {l : Launch} {d on : Nat} {y : MethodName} {bytes : ByteArray} {maxL : Nat} {ret : Option FieldType} {as : List AV} {S S' : LSt} {z : Option AV ⊕ Nat} {n : Nat} (hm : MOK y bytes maxL ret n) (hpl : ∀ E, z = .inr E → plainName y.cls = true) (hy : y.cls = ownN on) (hn : as.length ≤ maxL)
    (body : ∀ (p : Program) (e : Env) (R : Room) (s : State) (m : MethodId) (args : Array Value) (below : List Frame) (meth : Method) (c : Code) (A : Nat → Prop) (D : va_G) (cI cZ : ClassId) (ads0 : List Nat),
      Cx on bytes maxL (y.name == "<init>") p s m args meth c A D cI cZ → R.frames = d → R.locals = 40 * d → (∀ E, z = .inr E → HX R s c A ads0) → meth.sig.returnType = ret →
      Rn p l e R s m args below meth c A D cI cZ (QZ below D cI cZ A ads0 args s z S S') maxL ads0 S.1.length (nSl S.1) 0 (entL maxL as) [] S) : outZ z l d y bytes maxL ret as S S' := by
  cases z with
  | inl v =>
    exact ct_of hm hy hn (fun p e R s m args below meth c A D cI cZ ads0 hC hR hr => body p e R s m args below meth c A D cI cZ ads0 hC (by rw [hR]; rfl) (by rw [hR]; rfl) (fun E h => by cases h) hr)
  | inr E =>
    refine cx_of hm (hpl E rfl) hy hn (fun p e R s m args below meth c A D cI cZ ads0 hC hR hex hT hA hr => ?_)
    exact body p e R s m args below meth c A D cI cZ ads0 hC (by rw [hR]; rfl) (by rw [hR]; rfl) (fun E h => ⟨⟨by rw [hR]; exact Nat.le_refl 1, by rw [hR]; exact Nat.le_refl 6⟩, hex, hT, hA⟩) hr
section RN
variable {p : Program} {l : Launch} {e : Env} {R : Room} {s : State} {m : MethodId} {args : Array Value} {below : List Frame} {meth : Method} {c : Code} {A : Nat → Prop} {D : va_G} {cI cZ : ClassId} {Q : State → Prop}
variable {on : Nat} {cc : ByteArray} {nL : Nat} {init : Bool} {ads0 : List Nat} {n0 n1 pc : Nat} {L : List (Option AV)} {st : List AV} {S : LSt}
theorem rn_wk {L' : List (Option AV)} (h : lsub L' L) (k : Rn p l e R s m args below meth c A D cI cZ Q nL ads0 n0 n1 pc L' st S) : Rn p l e R s m args below meth c A D cI cZ Q nL ads0 n0 n1 pc L st S := by
  intro ads H locs ls cst hW hL hv
  obtain ⟨h1, h2⟩ := lsub_get h
  exact k ads H locs ls cst hW ⟨hL.1, by rw [h1]; exact hL.2.1, hL.2.2.1, fun i v hi => hL.2.2.2 i v (h2 i v hi)⟩ hv
theorem rn_rd {k n : Nat} {i x : Int} {σ : Sg} {lay : List Lay} (hC : Cx on cc nL init p s m args meth c A D cI cZ) (hd : decode cc pc = .ok (.iaload, 1)) (hk : lay[k]? = some (12, [n])) (hx : rdn n σ k i = some x)
    (kk : Rn p l e R s m args below meth c A D cI cZ Q nL ads0 n0 n1 (pc + 1) L (.inl x :: st) (lay, σ)) : Rn p l e R s m args below meth c A D cI cZ Q nL ads0 n0 n1 pc L (.inl i :: .inr k :: st) (lay, σ) := by
  obtain ⟨h0, h1, h2⟩ := rdn_inv hx
  rw [h2] at kk
  exact rn_iald hC hd hk h0 h1 kk
theorem rn_wr {k n : Nat} {i x : Int} {σ σ' : Sg} {lay : List Lay} (hC : Cx on cc nL init p s m args meth c A D cI cZ) (hd : decode cc pc = .ok (.iastore, 1)) (hk : lay[k]? = some (12, [n])) (hx : wrn n σ k i x = some σ')
    (kk : Rn p l e R s m args below meth c A D cI cZ Q nL ads0 n0 n1 (pc + 1) L st (lay, σ')) : Rn p l e R s m args below meth c A D cI cZ Q nL ads0 n0 n1 pc L (.inl x :: .inl i :: .inr k :: st) (lay, σ) := by
  obtain ⟨h0, h1, h2⟩ := wrn_inv hx
  rw [h2] at kk
  exact rn_iast hC hd hk h0 h1 kk
theorem rn_pfb {idx ci sl k : Nat} {q : List Nat} {x : Int} {σ σ' : Sg} {lay : List Lay} (hC : Cx on cc nL init p s m args meth c A D cI cZ) (hd : decode cc pc = .ok (.putfield idx, 3)) (hf : (on, idx, ci, sl) ∈ flk) (hci : ci < 12) (hk : lay[k]? = some (ci, q)) (hs : q[sl]? = some 0)
    (ht : ftc ci sl = 1) (hfin : fFin ci sl = false) (hx : pfb σ k sl x = some σ')
    (kk : Rn p l e R s m args below meth c A D cI cZ Q nL ads0 n0 n1 (pc + 3) L st (lay, σ')) : Rn p l e R s m args below meth c A D cI cZ Q nL ads0 n0 n1 pc L (.inl x :: .inr k :: st) (lay, σ) := by
  obtain ⟨h1, h2⟩ := pfb_inv hx
  rw [h2] at kk
  exact rn_putI hC hd hf hci hk hs (Or.inr ⟨ht, h1⟩) (Or.inl hfin) kk
end RN
