/-! the plain order by what is known: how the given program seeks -/
theorem bit_e : ∀ (x : Fin 256) (k : Fin 8), (jand (jshr ((x.val : Nat) : Int) ((k.val : Nat) : Int)) 1 = if x.val.testBit k.val then 1 else 0) := by decide +kernel
theorem hasFailed_k {σ : Sg} {P : Pth} (h : KNo σ P) {c : Nat} (hc : c < 8) : F_X3_hasFailed c σ = fk P c := by
  obtain ⟨-, -, h1, h2⟩ := h
  unfold F_X3_hasFailed
  have e := bit_e ⟨(σ 37 4).toNat, by omega⟩ ⟨c, hc⟩
  simp only at e
  rw [show (((σ 37 4).toNat : Nat) : Int) = σ 37 4 by omega] at e
  rw [e, h2 c hc]
  cases fk P c <;> simp
/-- what is asked next -/
def Nx (σ : Sg) (a : Ask) : Prop := σ 37 5 = a.1 ∧ σ 37 6 = a.2.1 ∧ σ 37 7 = a.2.2
theorem Nx.set {σ : Sg} {a b c : Int} : Nx (up2 (up2 (up2 σ 37 5 a) 37 6 b) 37 7 c) (a, b, c) := setNext_at
set_option maxHeartbeats 4000000 in
theorem seek_k {σ0 τ : Sg} {P : Pth} (hC : CtxK σ0 τ P) {m : Nat} (hm : τ 0 23 = m) : ∀ (d c n : Nat) (σ : Sg), c + d = m → d < n → FrK σ0 σ → ∃ σ', FrK σ0 σ' ∧ ((iter (fun a : (Int × Sg) => L_X3_seek_2 a.1 a.2) n ((c : Int), σ) = some (.inl σ') ∧ seekS τ P d c = (2, 0, 0)) ∨ (iter (fun a : (Int × Sg) => L_X3_seek_2 a.1 a.2) n ((c : Int), σ) = some (.inr σ') ∧ Nx σ' (seekS τ P d c)))
  | 0, c, n, σ, hcd, hn, hx => by
    obtain ⟨n, rfl⟩ : ∃ z, n = z + 1 := ⟨n - 1, by omega⟩
    refine ⟨σ, hx, Or.inl ⟨?_, rfl⟩⟩
    rw [iter_r (b := .inl σ) (by
      show L_X3_seek_2 c σ = _
      unfold L_X3_seek_2 F_X4_count
      rw [(hx.rm hC.2.1).2.1, if_pos (by omega)])]
  | d + 1, c, n, σ, hcd, hn, hx => by
    obtain ⟨n, rfl⟩ : ∃ z, n = z + 1 := ⟨n - 1, by omega⟩
    have hM0 := hC.2.1
    have h8 := hM0.2.2.2.1.2.1
    have hc : (c : Int) < τ 0 23 := by omega
    have hw : wrap ((c : Int) + 1) = ((c + 1 : Nat) : Int) := by rw [wrap_id (by omega) (by omega)]; omega
    have hcount := (hx.rm hM0).2.1
    have hfail := hasFailed_k (hx.kn hC.2.2.2.2.2) (c := c) (by omega)
    rw [seekS_s]
    by_cases g : fk P c = true
    · rw [if_pos g]
      rw [iter_l (f := fun a : (Int × Sg) => L_X3_seek_2 a.1 a.2) (a := ((c : Int), σ)) (a' := (((c + 1 : Nat) : Int), σ)) (by
        show L_X3_seek_2 c σ = _
        unfold L_X3_seek_2 F_X4_count B_X3_seek_30
        rw [hcount, if_neg (by omega), hfail, g, if_pos rfl, if_neg (by decide), if_neg (by decide), hw])]
      exact seek_k hC hm d (c + 1) n σ (by omega) (by omega) hx
    · rw [if_neg g]
      obtain ⟨σ1, e1, e2⟩ := tryCase_cl hC hc hx
      have hunf : L_X3_seek_2 c σ = B_X3_seek_30 c (codeK (tryK τ P c).1) σ1 := by
        unfold L_X3_seek_2 F_X4_count
        rw [hcount, if_neg (by omega), hfail, if_neg g, e1, Option.bind_some]
      clear e1
      obtain ⟨k1, k2, k3⟩ := e2
      generalize (tryK τ P c).1 = r at hunf k3
      cases r with
      | inr a =>
        obtain ⟨q1, q2, q3⟩ := k3 a rfl
        refine ⟨σ1, k1, Or.inr ⟨?_, q1, q2, q3⟩⟩
        rw [iter_r (f := fun a : (Int × Sg) => L_X3_seek_2 a.1 a.2) (a := ((c : Int), σ)) (b := .inr σ1) (by
          show L_X3_seek_2 c σ = _
          rw [hunf]
          unfold B_X3_seek_30 codeK
          rfl)]
      | inl b =>
        cases b with
        | false =>
          rw [iter_l (f := fun a : (Int × Sg) => L_X3_seek_2 a.1 a.2) (a := ((c : Int), σ)) (a' := (((c + 1 : Nat) : Int), σ1)) (by
            show L_X3_seek_2 c σ = _
            rw [hunf]
            unfold B_X3_seek_30 codeK
            rw [if_neg (by decide), if_neg (by decide), hw])]
          exact seek_k hC hm d (c + 1) n σ1 (by omega) (by omega) k1
        | true =>
          have hget : F_X4_get c 4 σ1 = τ 22 c := (get4m (k1.rm hM0) hc 4 (by omega)).trans ((k1.rm hM0).2.2.2.2 c hc).2.2.1
          have h55 : ∀ y : Int, B_X3_seek_55 c y σ1 = some (.inr (.inr (up2 (up2 (up2 σ1 37 5 y) 37 6 c) 37 7 0))) := fun y => by
            unfold B_X3_seek_55
            rw [setNext_c, bnd_eq]
          dsimp only
          by_cases g2 : τ 22 c = -1
          · rw [if_pos g2]
            refine ⟨_, k1.next, Or.inr ⟨?_, Nx.set⟩⟩
            rw [iter_r (f := fun a : (Int × Sg) => L_X3_seek_2 a.1 a.2) (a := ((c : Int), σ)) (b := .inr (up2 (up2 (up2 σ1 37 5 0) 37 6 c) 37 7 0)) (by
              show L_X3_seek_2 c σ = _
              rw [hunf]
              unfold B_X3_seek_30 codeK
              rw [if_pos rfl, hget, if_pos g2, h55])]
          · rw [if_neg g2]
            refine ⟨_, k1.next, Or.inr ⟨?_, Nx.set⟩⟩
            rw [iter_r (f := fun a : (Int × Sg) => L_X3_seek_2 a.1 a.2) (a := ((c : Int), σ)) (b := .inr (up2 (up2 (up2 σ1 37 5 5) 37 6 c) 37 7 0)) (by
              show L_X3_seek_2 c σ = _
              rw [hunf]
              unfold B_X3_seek_30 codeK
              rw [if_pos rfl, hget, if_neg g2, h55])]
theorem seekF_k {σ0 σ τ : Sg} {P : Pth} (hC : CtxK σ0 τ P) (h : FrK σ0 σ) : ∃ σ', F_X3_seek σ = some σ' ∧ FrK σ0 σ' ∧ Nx σ' (seekS τ P (τ 0 23).toNat 0) := by
  have h8 := hC.2.1.2.2.2.1.2.1
  obtain ⟨σ', e1, e2⟩ := seek_k hC (m := (τ 0 23).toNat) (by omega) (τ 0 23).toNat 0 3000 σ (by omega) (by omega) h
  unfold F_X3_seek
  rcases e2 with ⟨e2, e3⟩ | ⟨e2, e3⟩
  · have e2' : iter (fun a : (Int × Sg) => L_X3_seek_2 a.1 a.2) 3000 (0, σ) = some (.inl σ') := e2
    rw [e2', Option.bind_some, Sum.elim_inl, setNext_c, bnd_eq, e3]
    exact ⟨_, rfl, e1.next, Nx.set⟩
  · have e2' : iter (fun a : (Int × Sg) => L_X3_seek_2 a.1 a.2) 3000 (0, σ) = some (.inr σ') := e2
    rw [e2', Option.bind_some, Sum.elim_inr]
    exact ⟨_, rfl, e1, e3⟩
