/-! what an operation's two answers have to do with each other -/
def kE : List (Nat × Int) → Nat → Option Int
  | [], _ => none
  | q :: t, E => if E = q.1 then some q.2 else kE t E
theorem kE_inv {q : Nat × Int} {t : List (Nat × Int)} {E : Nat} {k : Int} (h : kE (q :: t) E = some k) : (E = q.1 ∧ k = q.2) ∨ (¬ E = q.1 ∧ kE t E = some k) := by
  unfold kE at h
  split at h
  · cases h; exact Or.inl ⟨by assumption, rfl⟩
  · exact Or.inr ⟨by assumption, h⟩
def inRs (σ : Sg) : Prop := ∀ k i : Nat, inR (σ k i)
/-- of the second account: two of its ints -/
def inRt (τ : Sg) : Prop := inR (τ 0 47) ∧ ∀ i : Nat, inR (τ 25 i)
def Ag (es : List (Nat × Int)) (x : Int ⊕ Nat) (v t : Int) : Prop := match x with
  | .inl a => t = 0 ∧ v = a
  | .inr E => kE es E = some t ∧ 1 ≤ t ∧ t ≤ 3
def AgB (es : List (Nat × Int)) (x : Bool ⊕ Nat) (v : Bool) (t : Int) : Prop := match x with
  | .inl a => t = 0 ∧ v = a
  | .inr E => kE es E = some t ∧ 1 ≤ t ∧ t ≤ 3
def Op_constructor (Rel : Sg → Sg → Prop) : Prop := ∀ (σ τ : Sg) (a1 : Int) (a2 : Int) (a3 : Int) (a4 : Int) (a5 : Int), Rel σ τ → inR a1 → inR a2 → inR a3 → inR a4 → inR a5 → inRs σ → inRt τ → ∃ q r, F_X10_constructor a1 a2 a3 a4 a5 σ = some q ∧ F_X11_constructor a1 a2 a3 a4 a5 τ = some r ∧ Ag [(0, 1), (1, 2), (2, 3)] q.1 r.1 (r.2 0 0) ∧ Rel q.2 r.2
def Op_num (Rel : Sg → Sg → Prop) : Prop := ∀ (σ τ : Sg) (a1 : Int), Rel σ τ → inR a1 → inRs σ → inRt τ → ∃ q r, F_X10_num a1 σ = some q ∧ F_X11_num a1 τ = some r ∧ Ag [(1, 1), (2, 2)] q.1 r.1 (r.2 0 0) ∧ Rel q.2 r.2
def Op_seq (Rel : Sg → Sg → Prop) : Prop := ∀ (σ τ : Sg) (a1 : Int) (a2 : Int) (a3 : Int) (a4 : Int), Rel σ τ → inR a1 → inR a2 → inR a3 → inR a4 → inRs σ → inRt τ → ∃ q r, F_X10_seq a1 a2 a3 a4 σ = some q ∧ F_X11_seq a1 a2 a3 a4 τ = some r ∧ Ag [(1, 1), (2, 2)] q.1 r.1 (r.2 0 0) ∧ Rel q.2 r.2
def Op_data (Rel : Sg → Sg → Prop) : Prop := ∀ (σ τ : Sg) (a1 : Int) (a2 : Int) (a3 : Int) (a4 : Int) (a5 : Int), Rel σ τ → inR a1 → inR a2 → inR a3 → inR a4 → inR a5 → inRs σ → inRt τ → ∃ q r, F_X10_data a1 a2 a3 a4 a5 σ = some q ∧ F_X11_data a1 a2 a3 a4 a5 τ = some r ∧ Ag [(0, 1), (1, 2), (2, 3)] q.1 r.1 (r.2 0 0) ∧ Rel q.2 r.2
def Op_any (Rel : Sg → Sg → Prop) : Prop := ∀ (σ τ : Sg) , Rel σ τ →  inRs σ → inRt τ → ∃ q r, F_X10_any  σ = some q ∧ F_X11_any  τ = some r ∧ Ag [(2, 1)] q.1 r.1 (r.2 0 0) ∧ Rel q.2 r.2
def Op_name (Rel : Sg → Sg → Prop) : Prop := ∀ (σ τ : Sg) (a1 : Int) (a2 : Int), Rel σ τ → inR a1 → inR a2 → inRs σ → inRt τ → ∃ q r, F_X10_name a1 a2 σ = some q ∧ F_X11_name a1 a2 τ = some r ∧ Ag [(0, 1), (1, 2), (2, 3)] q.1 r.1 (r.2 0 0) ∧ Rel q.2 r.2
def Op_range (Rel : Sg → Sg → Prop) : Prop := ∀ (σ τ : Sg) (a1 : Int) (a2 : Int), Rel σ τ → inR a1 → inR a2 → inRs σ → inRt τ → ∃ q r, F_X10_range a1 a2 σ = some q ∧ F_X11_range a1 a2 τ = some r ∧ Ag [(1, 1), (2, 2)] q.1 r.1 (r.2 0 0) ∧ Rel q.2 r.2
def Op_make (Rel : Sg → Sg → Prop) : Prop := ∀ (σ τ : Sg) (a1 : Int) (a2 : Int) (a3 : Int) (a4 : Int) (a5 : Int), Rel σ τ → inR a1 → inR a2 → inR a3 → inR a4 → inR a5 → inRs σ → inRt τ → ∃ q r, F_X10_make a1 a2 a3 a4 a5 σ = some q ∧ F_X11_make a1 a2 a3 a4 a5 τ = some r ∧ Ag [(0, 1), (1, 2), (2, 3)] q.1 r.1 (r.2 0 0) ∧ Rel q.2 r.2
def Op_either (Rel : Sg → Sg → Prop) : Prop := ∀ (σ τ : Sg) (a1 : Int) (a2 : Int), Rel σ τ → inR a1 → inR a2 → inRs σ → inRt τ → ∃ q r, F_X10_either a1 a2 σ = some q ∧ F_X11_either a1 a2 τ = some r ∧ Ag [(0, 1), (1, 2), (2, 3)] q.1 r.1 (r.2 0 0) ∧ Rel q.2 r.2
def Op_view (Rel : Sg → Sg → Prop) : Prop := ∀ (σ τ : Sg) (a1 : Int) (a2 : Int), Rel σ τ → inR a1 → inR a2 → inRs σ → inRt τ → ∃ q r, F_X10_view a1 a2 σ = some q ∧ F_X11_view a1 a2 τ = some r ∧ Ag [(0, 1), (1, 2), (2, 3)] q.1 r.1 (r.2 0 0) ∧ Rel q.2 r.2
def Op_list (Rel : Sg → Sg → Prop) : Prop := ∀ (σ τ : Sg) (a1 : Int) (a2 : Int) (a3 : Int) (a4 : Int), Rel σ τ → inR a1 → inR a2 → inR a3 → inR a4 → inRs σ → inRt τ → ∃ q r, F_X10_list a1 a2 a3 a4 σ = some q ∧ F_X11_list a1 a2 a3 a4 τ = some r ∧ Ag [(0, 1), (1, 2), (2, 3)] q.1 r.1 (r.2 0 0) ∧ Rel q.2 r.2
def Op_setView (Rel : Sg → Sg → Prop) : Prop := ∀ (σ τ : Sg) (a1 : Int) (a2 : Int) (a3 : Int) (a4 : Int) (a5 : Int), Rel σ τ → inR a1 → inR a2 → inR a3 → inR a4 → inR a5 → inRs σ → inRt τ → ∃ q r, F_X10_setView a1 a2 a3 a4 a5 σ = some q ∧ F_X11_setView a1 a2 a3 a4 a5 τ = some r ∧ Ag [(0, 1), (1, 2)] q.1 r.1 (r.2 0 0) ∧ Rel q.2 r.2
def Op_begin (Rel : Sg → Sg → Prop) : Prop := ∀ (σ τ : Sg) (a1 : Int) (a2 : Int) (a3 : Int) (a4 : Int), Rel σ τ → inR a1 → inR a2 → inR a3 → inR a4 → inRs σ → inRt τ → ∃ q r, F_X10_begin a1 a2 a3 a4 σ = some q ∧ F_X11_begin a1 a2 a3 a4 τ = some r ∧ Ag [(1, 1)] q.1 r.1 (r.2 0 0) ∧ Rel q.2 r.2
def Op_add (Rel : Sg → Sg → Prop) : Prop := ∀ (σ τ : Sg) (a1 : Int) (a2 : Int) (a3 : Int) (a4 : Int), Rel σ τ → inR a1 → inR a2 → inR a3 → inR a4 → inRs σ → inRt τ → ∃ q r, F_X10_add a1 a2 a3 a4 σ = some q ∧ F_X11_add a1 a2 a3 a4 τ = some r ∧ Ag [(0, 1), (1, 2), (2, 3)] q.1 r.1 (r.2 0 0) ∧ Rel q.2 r.2
def Op_guard (Rel : Sg → Sg → Prop) : Prop := ∀ (σ τ : Sg) (a1 : Int) (a2 : Int) (a3 : Int) (a4 : Int), Rel σ τ → inR a1 → inR a2 → inR a3 → inR a4 → inRs σ → inRt τ → ∃ q r, F_X10_guard a1 a2 a3 a4 σ = some q ∧ F_X11_guard a1 a2 a3 a4 τ = some r ∧ Ag [(0, 1), (1, 2)] q.1 r.1 (r.2 0 0) ∧ Rel q.2 r.2
def Op_split (Rel : Sg → Sg → Prop) : Prop := ∀ (σ τ : Sg) (a1 : Int) (a2 : Int), Rel σ τ → inR a1 → inR a2 → inRs σ → inRt τ → ∃ q r, F_X10_split a1 a2 σ = some q ∧ F_X11_split a1 a2 τ = some r ∧ Ag [(0, 1), (2, 2)] q.1 r.1 (r.2 0 0) ∧ Rel q.2 r.2
def Op_merge (Rel : Sg → Sg → Prop) : Prop := ∀ (σ τ : Sg) (a1 : Int) (a2 : Int), Rel σ τ → inR a1 → inR a2 → inRs σ → inRt τ → ∃ q r, F_X10_merge a1 a2 σ = some q ∧ F_X11_merge a1 a2 τ = some r ∧ Ag [(0, 1), (2, 2)] q.1 r.1 (r.2 0 0) ∧ Rel q.2 r.2
def Op_run (Rel : Sg → Sg → Prop) : Prop := ∀ (σ τ : Sg) (a1 : Int) (a2 : Int) (a3 : Int) (a4 : Int), Rel σ τ → inR a1 → inR a2 → inR a3 → inR a4 → inRs σ → inRt τ → ∃ q r, F_X10_run a1 a2 a3 a4 σ = some q ∧ F_X11_run a1 a2 a3 a4 τ = some r ∧ Ag [(0, 1), (1, 2), (2, 3)] q.1 r.1 (r.2 0 0) ∧ Rel q.2 r.2
def Op_tests (Rel : Sg → Sg → Prop) : Prop := ∀ (σ τ : Sg), Rel σ τ → inRs σ → inRt τ → F_X10_tests σ = (F_X11_tests τ).1 ∧ Rel σ (F_X11_tests τ).2
def Op_views (Rel : Sg → Sg → Prop) : Prop := ∀ (σ τ : Sg), Rel σ τ → inRs σ → inRt τ → F_X10_views σ = (F_X11_views τ).1 ∧ Rel σ (F_X11_views τ).2
def Op_viewAt (Rel : Sg → Sg → Prop) : Prop := ∀ (σ τ : Sg) (a1 : Int), Rel σ τ → inR a1 → inRs σ → inRt τ → ∃ q r, F_X10_viewAt a1 σ = some q ∧ F_X11_viewAt a1 τ = some r ∧ Ag [(0, 1)] q.1 r.1 (r.2 0 0) ∧ Rel q.2 r.2
def Op_bound (Rel : Sg → Sg → Prop) : Prop := ∀ (σ τ : Sg) (a1 : Int), Rel σ τ → inR a1 → inRs σ → inRt τ → ∃ q r, F_X10_bound a1 σ = some q ∧ F_X11_bound a1 τ = some r ∧ Ag [(0, 1)] q.1 r.1 (r.2 0 0) ∧ Rel q.2 r.2
def Op_taken (Rel : Sg → Sg → Prop) : Prop := ∀ (σ τ : Sg) (a1 : Int), Rel σ τ → inR a1 → inRs σ → inRt τ → ∃ q r, F_X10_taken a1 σ = some q ∧ F_X11_taken a1 τ = some r ∧ Ag [(0, 1)] q.1 r.1 (r.2 0 0) ∧ Rel q.2 r.2
def Op_size (Rel : Sg → Sg → Prop) : Prop := ∀ (σ τ : Sg) (a1 : Int) (a2 : Bool), Rel σ τ → inR a1 → inRs σ → inRt τ → ∃ q r, F_X10_size a1 a2 σ = some q ∧ F_X11_size a1 a2 τ = some r ∧ Ag [(0, 1), (2, 2)] q.1 r.1 (r.2 0 0) ∧ Rel q.2 r.2
def Op_missing (Rel : Sg → Sg → Prop) : Prop := ∀ (σ τ : Sg) , Rel σ τ →  inRs σ → inRt τ → ∃ q r, F_X10_missing  σ = some q ∧ F_X11_missing  τ = some r ∧ Ag [(2, 1)] q.1 r.1 (r.2 0 0) ∧ Rel q.2 r.2
def Op_example (Rel : Sg → Sg → Prop) : Prop := ∀ (σ τ : Sg) (a1 : Int), Rel σ τ → inR a1 → inRs σ → inRt τ → ∃ q r, F_X10_example a1 σ = some q ∧ F_X11_example a1 τ = some r ∧ Ag [(2, 1)] q.1 r.1 (r.2 0 0) ∧ Rel q.2 r.2
def Op_isUsed (Rel : Sg → Sg → Prop) : Prop := ∀ (σ τ : Sg) (a1 : Int), Rel σ τ → inR a1 → inRs σ → inRt τ → ∃ q r, F_X10_isUsed a1 σ = some q ∧ F_X11_isUsed a1 τ = some r ∧ AgB [(0, 1), (2, 2)] q.1 r.1 (r.2 0 0) ∧ Rel q.2 r.2
def AllOps (Rel : Sg → Sg → Prop) : Prop := Op_constructor Rel ∧ Op_num Rel ∧ Op_seq Rel ∧ Op_data Rel ∧ Op_any Rel ∧ Op_name Rel ∧ Op_range Rel ∧ Op_make Rel ∧ Op_either Rel ∧ Op_view Rel ∧ Op_list Rel ∧ Op_setView Rel ∧ Op_begin Rel ∧ Op_add Rel ∧ Op_guard Rel ∧ Op_split Rel ∧ Op_merge Rel ∧ Op_run Rel ∧ Op_tests Rel ∧ Op_views Rel ∧ Op_viewAt Rel ∧ Op_bound Rel ∧ Op_taken Rel ∧ Op_size Rel ∧ Op_missing Rel ∧ Op_example Rel ∧ Op_isUsed Rel
