/-! bits of codes; codes written and led -/
theorem sh_cnt {k : Nat} (hk : k < 32) : (((Int32.ofInt ((k : Nat) : Int)) &&& 31).toBitVec.smod 32).toNat = k := by
  have : ∀ k : Fin 32, (((Int32.ofInt ((k.val : Nat) : Int)) &&& 31).toBitVec.smod 32).toNat = k.val := by decide +kernel
  exact this ⟨k, hk⟩
theorem jshl_n {x k : Nat} (hk : k < 32) (h : x * 2 ^ k < 2147483648) : jshl ((x : Nat) : Int) ((k : Nat) : Int) = ((x * 2 ^ k : Nat) : Int) := by
  unfold jshl
  have hx : x < 2147483648 := Nat.lt_of_le_of_lt (Nat.le_mul_of_pos_right x (Nat.two_pow_pos k)) h
  have e : (Int32.ofInt ((x : Nat) : Int) <<< (Int32.ofInt ((k : Nat) : Int) &&& 31)).toBitVec.toNat = x * 2 ^ k := by
    rw [Int32.toBitVec_shiftLeft, BitVec.shiftLeft_eq', BitVec.toNat_shiftLeft, sh_cnt hk, i32_bv ⟨by omega, by omega⟩, Nat.shiftLeft_eq, Int.toNat_natCast]
    omega
  rw [i32_nn (by rw [e]; omega), e]
theorem jshr_n {x k : Nat} (hk : k < 32) (h : x < 2147483648) : jshr ((x : Nat) : Int) ((k : Nat) : Int) = ((x / 2 ^ k : Nat) : Int) := by
  unfold jshr
  have e : (Int32.ofInt ((x : Nat) : Int) >>> (Int32.ofInt ((k : Nat) : Int) &&& 31)).toInt = ((x : Nat) : Int) >>> k := by
    show (Int32.ofInt ((x : Nat) : Int) >>> (Int32.ofInt ((k : Nat) : Int) &&& 31)).toBitVec.toInt = _
    rw [Int32.toBitVec_shiftRight, BitVec.sshiftRight_eq', sh_cnt hk, BitVec.toInt_sshiftRight]
    have : (Int32.ofInt ((x : Nat) : Int)).toBitVec.toInt = x := i32_ofInt_toInt (x := ((x : Nat) : Int)) (by unfold inR; omega)
    rw [this]
  rw [e, Int.shiftRight_eq_div_pow]
  norm_cast
def pk (op d a b : Nat) : Nat := op + 16 * d + 256 * a + 65536 * b
theorem jor_add {x y k : Nat} (hx : x < 2 ^ k) (hs : x + y * 2 ^ k < 2147483648) : jor ((x : Nat) : Int) ((y * 2 ^ k : Nat) : Int) = ((x + y * 2 ^ k : Nat) : Int) := by
  rw [jor_nat ⟨by omega, by omega⟩ ⟨by omega, by omega⟩, Int.toNat_natCast, Int.toNat_natCast]
  congr 1
  have := Nat.shiftLeft_add_eq_or_of_lt hx y
  rw [Nat.shiftLeft_eq] at this
  rw [Nat.or_comm, ← this]
  omega
theorem pk_c {op d a b : Nat} (h1 : op < 16) (h2 : d < 16) (h3 : a < 256) (h4 : b < 256) : jor (jor (jor (op : Int) (jshl (d : Int) 4)) (jshl (a : Int) 8)) (jshl (b : Int) 16) = ((pk op d a b : Nat) : Int) := by
  have e1 := jshl_n (x := d) (k := 4) (by omega) (by omega)
  have e2 := jshl_n (x := a) (k := 8) (by omega) (by omega)
  have e3 := jshl_n (x := b) (k := 16) (by omega) (by omega)
  have e1' : jshl (d : Int) 4 = ((d * 2 ^ 4 : Nat) : Int) := e1
  have e2' : jshl (a : Int) 8 = ((a * 2 ^ 8 : Nat) : Int) := e2
  have e3' : jshl (b : Int) 16 = ((b * 2 ^ 16 : Nat) : Int) := e3
  rw [e1', e2', e3', jor_add (k := 4) (by omega) (by omega), jor_add (k := 8) (by omega) (by omega), jor_add (k := 16) (by omega) (by omega)]
  unfold pk
  omega
theorem jand_m {x k : Nat} (hk : k ≤ 30) (h : x < 2147483648) : jand ((x : Nat) : Int) ((2 ^ k - 1 : Nat) : Int) = ((x % 2 ^ k : Nat) : Int) := by
  have h2 : 2 ^ k ≤ 2 ^ 30 := Nat.pow_le_pow_right (by omega) hk
  have hp := Nat.two_pow_pos k
  rw [jand_nat ⟨by omega, by omega⟩ ⟨by omega, by omega⟩, Int.toNat_natCast, Int.toNat_natCast, Nat.and_two_pow_sub_one_eq_mod]
theorem pk_op {op d a b : Nat} (h1 : op < 16) (h2 : d < 16) (h3 : a < 256) (h4 : b < 256) : jand ((pk op d a b : Nat) : Int) 15 = (op : Int) := by
  have := jand_m (x := pk op d a b) (k := 4) (by omega) (by unfold pk; omega)
  have e : jand ((pk op d a b : Nat) : Int) 15 = ((pk op d a b % 2 ^ 4 : Nat) : Int) := this
  rw [e]; unfold pk; omega
theorem pk_d {op d a b : Nat} (h1 : op < 16) (h2 : d < 16) (h3 : a < 256) (h4 : b < 256) : jand (jshr ((pk op d a b : Nat) : Int) 4) 15 = (d : Int) := by
  have e0 : jshr ((pk op d a b : Nat) : Int) 4 = ((pk op d a b / 2 ^ 4 : Nat) : Int) := jshr_n (k := 4) (by omega) (by unfold pk; omega)
  have := jand_m (x := pk op d a b / 2 ^ 4) (k := 4) (by omega) (by unfold pk; omega)
  have e : jand ((pk op d a b / 2 ^ 4 : Nat) : Int) 15 = ((pk op d a b / 2 ^ 4 % 2 ^ 4 : Nat) : Int) := this
  rw [e0, e]; unfold pk; omega
theorem pk_1 {op d a b : Nat} (h1 : op < 16) (h2 : d < 16) (h3 : a < 256) (h4 : b < 256) : jand (jshr ((pk op d a b : Nat) : Int) 8) 255 = (a : Int) := by
  have e0 : jshr ((pk op d a b : Nat) : Int) 8 = ((pk op d a b / 2 ^ 8 : Nat) : Int) := jshr_n (k := 8) (by omega) (by unfold pk; omega)
  have := jand_m (x := pk op d a b / 2 ^ 8) (k := 8) (by omega) (by unfold pk; omega)
  have e : jand ((pk op d a b / 2 ^ 8 : Nat) : Int) 255 = ((pk op d a b / 2 ^ 8 % 2 ^ 8 : Nat) : Int) := this
  rw [e0, e]; unfold pk; omega
theorem pk_2 {op d a b : Nat} (h1 : op < 16) (h2 : d < 16) (h3 : a < 256) (h4 : b < 256) : jand (jshr ((pk op d a b : Nat) : Int) 16) 255 = (b : Int) := by
  have e0 : jshr ((pk op d a b : Nat) : Int) 16 = ((pk op d a b / 2 ^ 16 : Nat) : Int) := jshr_n (k := 16) (by omega) (by unfold pk; omega)
  have := jand_m (x := pk op d a b / 2 ^ 16) (k := 8) (by omega) (by unfold pk; omega)
  have e : jand ((pk op d a b / 2 ^ 16 : Nat) : Int) 255 = ((pk op d a b / 2 ^ 16 % 2 ^ 8 : Nat) : Int) := this
  rw [e0, e]; unfold pk; omega
/-- a code written at n -/
def wrC (σ : Sg) (n : Nat) (v e : Int) : Sg := up2 (up2 (up2 σ 33 4 ((n : Int) + 1)) 34 n v) 35 n e
theorem write_c {σ : Sg} {n op d a b : Nat} {e : Int} (hn : σ 33 4 = n) (h9 : n < 1969) (h1 : op < 16) (h2 : d < 16) (h3 : a < 256) (h4 : b < 256) : F_X0_write op d a b e σ = ((n : Int), wrC σ n (pk op d a b) e) := by
  unfold F_X0_write wrC
  rw [pk_c h1 h2 h3 h4, hn, wrap_id (by omega) (by omega), bnd_eq, bnd_eq, wrD_ok (by omega) (by omega), bnd_eq, wrD_ok (by omega) (by omega), bnd_eq, show ((n : Int)).toNat = n by omega]
theorem wrC_4 {σ : Sg} {n : Nat} {v e : Int} : wrC σ n v e 33 4 = (n : Int) + 1 := by
  unfold wrC; rw [up2_row (by omega), up2_row (by omega), up2_at rfl rfl]
theorem wrC_34 {σ : Sg} {n i : Nat} {v e : Int} : wrC σ n v e 34 i = if i = n then v else σ 34 i := by
  unfold wrC; rw [up2_row (by omega)]
  by_cases c : i = n
  · rw [up2_at rfl c, if_pos c]
  · rw [up2_idx c, if_neg c, up2_row (by omega)]
theorem wrC_35 {σ : Sg} {n i : Nat} {v e : Int} : wrC σ n v e 35 i = if i = n then e else σ 35 i := by
  unfold wrC
  by_cases c : i = n
  · rw [up2_at rfl c, if_pos c]
  · rw [up2_idx c, if_neg c, up2_row (by omega), up2_row (by omega)]
/-- a chain of codes -/
def chn (σ : Sg) : Int → List Nat → Prop
  | c, [] => c = -1
  | c, a :: L => c = (a : Int) ∧ chn σ (σ 35 a) L
theorem chn_congr {σ σ' : Sg} : ∀ {L : List Nat} {c : Int}, (∀ a ∈ L, σ' 35 a = σ 35 a) → chn σ c L → chn σ' c L
  | [], _, _, h => h
  | a :: L, c, hs, h => ⟨h.1, by rw [hs a List.mem_cons_self]; exact chn_congr (fun b hb => hs b (List.mem_cons_of_mem _ hb)) h.2⟩
/-- codes led to the code that comes next -/
def ldC (σ : Sg) (L : List Nat) : Sg := fun r i => if r = 35 ∧ i ∈ L then σ 33 4 else σ r i
theorem ldC_row {σ : Sg} {L : List Nat} {r : Nat} (h : ¬ r = 35) : ldC σ L r = σ r := by funext i; unfold ldC; rw [if_neg (fun q => h q.1)]
theorem ldC_35 {σ : Sg} {L : List Nat} {i : Nat} : ldC σ L 35 i = if i ∈ L then σ 33 4 else σ 35 i := by
  unfold ldC
  by_cases c : i ∈ L
  · rw [if_pos ⟨rfl, c⟩, if_pos c]
  · rw [if_neg (fun q => c q.2), if_neg c]
theorem land_l : ∀ (L : List Nat) (c : Int) (k n : Nat) (σ : Sg), chn σ c L → L.Nodup → (∀ a ∈ L, a < 1969) → L.length + k ≤ 1969 → L.length < n → iter (fun a : (Int × Int × Sg) => L_X0_land_4 a.1 a.2.1 a.2.2) n (c, (k : Int), σ) = some (ldC σ L)
  | [], c, k, n, σ, h, _, _, _, hn => by
    obtain ⟨n, rfl⟩ : ∃ z, n = z + 1 := ⟨n - 1, by omega⟩
    have e : ldC σ [] = σ := by funext r i; unfold ldC; rw [if_neg (fun q => by simp at q)]
    rw [e]
    refine iter_r (f := fun a : (Int × Int × Sg) => L_X0_land_4 a.1 a.2.1 a.2.2) (a := (c, (k : Int), σ)) ?_
    show L_X0_land_4 c k σ = _
    unfold L_X0_land_4
    by_cases g : (1969 : Int) ≤ k
    · rw [if_pos g]
    · rw [if_neg g, if_pos (show c = -1 from h)]
  | a :: L, c, k, n, σ, h, hd, hb, hl, hn => by
    rw [List.length_cons] at hl hn
    rw [List.nodup_cons] at hd
    obtain ⟨n, rfl⟩ : ∃ z, n = z + 1 := ⟨n - 1, by omega⟩
    have ha := hb a List.mem_cons_self
    obtain ⟨h1, h2⟩ := h
    have hstep : L_X0_land_4 c k σ = some (.inl (σ 35 a, ((k + 1 : Nat) : Int), up2 σ 35 a (σ 33 4))) := by
      unfold L_X0_land_4
      rw [if_neg (by omega), if_neg (by omega), h1, rdD_ok (by omega) (by omega), bnd_eq, wrD_ok (by omega) (by omega), bnd_eq, wrap_id (by omega) (by omega), show ((a : Int)).toNat = a by omega, show (k : Int) + 1 = ((k + 1 : Nat) : Int) by omega]
    have hc : chn (up2 σ 35 a (σ 33 4)) (σ 35 a) L := chn_congr (fun b hb => by rw [up2_idx (fun q => hd.1 (by rw [← q]; exact hb))]) h2
    rw [iter_l (f := fun a : (Int × Int × Sg) => L_X0_land_4 a.1 a.2.1 a.2.2) (a := (c, (k : Int), σ)) hstep, land_l L _ (k + 1) n _ hc hd.2 (fun b hb' => hb b (List.mem_cons_of_mem _ hb')) (by omega) (by omega)]
    congr 1
    funext r i
    unfold ldC
    by_cases g : r = 35 ∧ i ∈ a :: L
    · rw [if_pos g]
      by_cases g2 : r = 35 ∧ i ∈ L
      · rw [if_pos g2, up2_row (by omega)]
      · rw [if_neg g2]
        have : i = a := by
          rcases List.mem_cons.mp g.2 with z | z
          · exact z
          · exact absurd ⟨g.1, z⟩ g2
        rw [up2_at g.1 this]
    · rw [if_neg g, if_neg (fun q => g ⟨q.1, List.mem_cons_of_mem _ q.2⟩)]
      unfold up2
      rw [if_neg (fun q => g ⟨q.1, by rw [q.2]; exact List.mem_cons_self⟩)]
theorem land_c {σ : Sg} {c : Int} {L : List Nat} (h : chn σ c L) (hd : L.Nodup) (hb : ∀ a ∈ L, a < 1969) : F_X0_land c σ = some (ldC σ L) := by
  have hl : L.length ≤ 1969 := by
    have := sub_len (l := L) (m := List.range 1969) hd (fun a ha => List.mem_range.mpr (hb a ha))
    rw [List.length_range] at this
    exact this
  unfold F_X0_land
  have := land_l L c 0 1970 σ h hd hb (by omega) (by omega)
  have h2 : iter (fun a : (Int × Int × Sg) => L_X0_land_4 a.1 a.2.1 a.2.2) 1970 (c, 0, σ) = some (ldC σ L) := this
  rw [h2, Option.bind_some]
