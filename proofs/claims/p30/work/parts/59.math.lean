/-! bits -/
theorem i32_bv {x : Int} (h : 0 ≤ x ∧ x < 2147483648) : (Int32.ofInt x).toBitVec.toNat = x.toNat := by
  rw [Int32.toBitVec_ofInt, BitVec.toNat_ofInt]
  congr 1
  omega
theorem i32_nn {a : Int32} (h : a.toBitVec.toNat < 2147483648) : a.toInt = (a.toBitVec.toNat : Int) := by
  show a.toBitVec.toInt = _
  rw [BitVec.toInt_eq_toNat_of_lt (by omega)]
theorem jor_nat {x y : Int} (hx : 0 ≤ x ∧ x < 2147483648) (hy : 0 ≤ y ∧ y < 2147483648) : jor x y = ((x.toNat ||| y.toNat : Nat) : Int) := by
  unfold jor
  have hb : (Int32.ofInt x ||| Int32.ofInt y).toBitVec.toNat = x.toNat ||| y.toNat := by
    rw [Int32.toBitVec_or, BitVec.toNat_or, i32_bv hx, i32_bv hy]
  have hlt : x.toNat ||| y.toNat < 2147483648 := Nat.or_lt_two_pow (n := 31) (by omega) (by omega)
  rw [i32_nn (by rw [hb]; exact hlt), hb]
theorem jand_nat {x y : Int} (hx : 0 ≤ x ∧ x < 2147483648) (hy : 0 ≤ y ∧ y < 2147483648) : jand x y = ((x.toNat &&& y.toNat : Nat) : Int) := by
  unfold jand
  have hb : (Int32.ofInt x &&& Int32.ofInt y).toBitVec.toNat = x.toNat &&& y.toNat := by
    rw [Int32.toBitVec_and, BitVec.toNat_and, i32_bv hx, i32_bv hy]
  have hlt : x.toNat &&& y.toNat < 2147483648 := Nat.lt_of_le_of_lt Nat.and_le_left (by omega)
  rw [i32_nn (by rw [hb]; exact hlt), hb]
theorem bit_a : ∀ k : Fin 6, jshl 1 ((k.val : Nat) : Int) = ((2 ^ k.val : Nat) : Int) := by decide +kernel
theorem bit_b : ∀ (x : Fin 64) (k : Fin 6), (jand (jshr ((x.val : Nat) : Int) ((k.val : Nat) : Int)) 1 = if x.val.testBit k.val then 1 else 0) := by decide +kernel
theorem bit_c : ∀ (x : Fin 1024) (k : Fin 10), (jand (jshr ((x.val : Nat) : Int) ((k.val : Nat) : Int)) 1 = if x.val.testBit k.val then 1 else 0) := by decide +kernel
theorem bit_d : ∀ (lo hi : Fin 10), lo ≤ hi → (let r := jand (jshr 1023 (9 - ((hi.val : Nat) : Int))) (jshl 1023 ((lo.val : Nat) : Int)); 0 < r ∧ r < 1024 ∧ ∀ d : Fin 10, (r.toNat.testBit d.val = true ↔ lo ≤ d ∧ d ≤ hi)) := by decide +kernel
theorem jor64 {x y : Int} (hx : 0 ≤ x ∧ x < 64) (hy : 0 ≤ y ∧ y < 64) : jor x y = ((x.toNat ||| y.toNat : Nat) : Int) ∧ 0 ≤ jor x y ∧ jor x y < 64 := by
  have h := jor_nat (x := x) (y := y) (by omega) (by omega)
  have hlt : x.toNat ||| y.toNat < 64 := Nat.or_lt_two_pow (n := 6) (by omega) (by omega)
  rw [h]
  exact ⟨rfl, by omega, by omega⟩
theorem jor1024 {x y : Int} (hx : 0 ≤ x ∧ x < 1024) (hy : 0 ≤ y ∧ y < 1024) : jor x y = ((x.toNat ||| y.toNat : Nat) : Int) ∧ 0 ≤ jor x y ∧ jor x y < 1024 := by
  have h := jor_nat (x := x) (y := y) (by omega) (by omega)
  have hlt : x.toNat ||| y.toNat < 1024 := Nat.or_lt_two_pow (n := 10) (by omega) (by omega)
  rw [h]
  exact ⟨rfl, by omega, by omega⟩
/-- the names, put together in either order -/
theorem names_eq {b x y z : Int} (hb : 0 ≤ b ∧ b < 64) (hx : 0 ≤ x ∧ x < 64) (hy : 0 ≤ y ∧ y < 64) (hz : 0 ≤ z ∧ z < 64) : jor (jor (jor x y) z) b = jor (jor (jor b x) y) z ∧ 0 ≤ jor (jor (jor b x) y) z ∧ jor (jor (jor b x) y) z < 64 := by
  obtain ⟨a1, a2⟩ := jor64 hx hy
  obtain ⟨a3, a4⟩ := jor64 a2 hz
  obtain ⟨a5, a6⟩ := jor64 a4 hb
  obtain ⟨b1, b2⟩ := jor64 hb hx
  obtain ⟨b3, b4⟩ := jor64 b2 hy
  obtain ⟨b5, b6⟩ := jor64 b4 hz
  refine ⟨?_, b6⟩
  rw [a5, b5]
  congr 1
  rw [a3, a1, b3, b1]
  simp only [Int.toNat_natCast]
  apply Nat.eq_of_testBit_eq
  intro i
  simp only [Nat.testBit_or]
  cases b.toNat.testBit i <;> cases x.toNat.testBit i <;> cases y.toNat.testBit i <;> cases z.toNat.testBit i <;> rfl
theorem jor_0l {x : Int} (h : 0 ≤ x ∧ x < 64) : jor 0 x = x := by
  rw [(jor64 (by omega) h).1]
  simp; omega
theorem names_eq0 {x y z : Int} (hx : 0 ≤ x ∧ x < 64) (hy : 0 ≤ y ∧ y < 64) (hz : 0 ≤ z ∧ z < 64) : jor (jor x y) z = jor (jor (jor 0 x) y) z ∧ 0 ≤ jor (jor (jor 0 x) y) z ∧ jor (jor (jor 0 x) y) z < 64 := by
  rw [jor_0l hx]
  have a := jor64 hx hy
  have b := jor64 a.2 hz
  exact ⟨rfl, b.2⟩
