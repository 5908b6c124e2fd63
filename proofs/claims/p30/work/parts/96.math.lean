/-! four bits for a view -/
def p16 (v : Int) : Int := if v = 0 then 1 else if v = 1 then 16 else 256
def nib (g v : Int) : Int := g / p16 v % 16
def g3 (a b c : Fin 16) : Int := ((a.val + 16 * b.val + 256 * c.val : Nat) : Int)
theorem nib_a : ∀ (v : Fin 3) (a b c : Fin 16), jand (jshr (g3 a b c) (4 * ((v.val : Nat) : Int))) 15 = nib (g3 a b c) ((v.val : Nat) : Int) := by decide +kernel
theorem nib_b : ∀ (v : Fin 3) (a b c : Fin 16), jand (g3 a b c) (jxor (jshl 15 (4 * ((v.val : Nat) : Int))) (-1)) = g3 a b c - nib (g3 a b c) ((v.val : Nat) : Int) * p16 ((v.val : Nat) : Int) := by decide +kernel
theorem nib_c0 : ∀ (w b c : Fin 16), jor (g3 0 b c) (jshl ((w.val : Nat) : Int) 0) = g3 0 b c + ((w.val : Nat) : Int) := by decide +kernel
theorem nib_c1 : ∀ (w b c : Fin 16), jor (g3 b 0 c) (jshl ((w.val : Nat) : Int) 4) = g3 b 0 c + 16 * ((w.val : Nat) : Int) := by decide +kernel
theorem nib_c2 : ∀ (w b c : Fin 16), jor (g3 b c 0) (jshl ((w.val : Nat) : Int) 8) = g3 b c 0 + 256 * ((w.val : Nat) : Int) := by decide +kernel
