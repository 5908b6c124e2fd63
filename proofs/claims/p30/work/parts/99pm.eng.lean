/-! the two of the law: an act, and what is alike -/
def Inv2 (σ1 σ2 ν : Sg) : Prop := ∃ τ, RelW σ1 τ ∧ RelW σ2 τ ∧ Cn ν τ
theorem rbs_1 {σ1 σ2 ν : Sg} (h : RBs [σ1, σ2, ν]) : inRs σ1 := h σ1 (by simp)
theorem rbs_2 {σ1 σ2 ν : Sg} (h : RBs [σ1, σ2, ν]) : inRs σ2 := h σ2 (by simp)
/-- an account in range -/
theorem inv_n {σ1 σ2 ν : Sg} (h : Inv2 σ1 σ2 ν) (hr : inRs σ1) : ∃ τ, RelW σ1 τ ∧ RelW σ2 τ ∧ Cn ν τ ∧ inRt τ := by
  obtain ⟨τ, h1, h2, hc⟩ := h
  obtain ⟨τ', g1, g2, g3, g4⟩ := rel_norm h1 h2 hr
  refine ⟨τ', g1, g2, ?_, g3⟩
  unfold Cn at *
  rw [g4 0 (by omega)]
  exact hc
theorem inv_act {σ1 σ2 ν : Sg} (x : Int) (h : Inv2 σ1 σ2 ν) (hr : RBs [σ1, σ2, ν]) (hx0 : 0 ≤ x) (hx1 : x < 2147483648) : ∃ (k : Int) (p1 p2 : Sg), F_act x (ν 0 0) (ν 0 1) (ν 0 2) (ν 0 3) σ1 = some (k, p1) ∧ F_act x (ν 0 0) (ν 0 1) (ν 0 2) (ν 0 3) σ2 = some (k, p2) ∧ Inv2 p1 p2 (F_keep x k ν) := by
  obtain ⟨τ, h1, h2, hc, rt⟩ := inv_n h (rbs_1 hr)
  obtain ⟨k, p1, p2, τ', g1, g2, g3, g4, g5⟩ := act_two h1 h2 (rbs_1 hr) (rbs_2 hr) rt hc hx0 hx1
  exact ⟨k, p1, p2, g1, g2, τ', g3, g4, g5⟩
theorem st_bound {a : Int} {σ : Sg} {q : (Int ⊕ Nat) × Sg} (h : F_X10_bound a σ = some q) : q.2 = σ := by
  unfold F_X10_bound at h; split at h <;> (cases h; rfl)
theorem st_viewAt {a : Int} {σ : Sg} {q : (Int ⊕ Nat) × Sg} (h : F_X10_viewAt a σ = some q) : q.2 = σ := by
  unfold F_X10_viewAt at h; split at h <;> (cases h; rfl)
theorem st_taken {a : Int} {σ : Sg} {q : (Int ⊕ Nat) × Sg} (h : F_X10_taken a σ = some q) : q.2 = σ := by
  unfold F_X10_taken at h; split at h <;> (cases h; rfl)
section OBS
variable {σ1 σ2 τ : Sg}
theorem s_obs {f : Sg → Option ((Int ⊕ Nat) × Sg)} {js : List Nat} (hs : ∀ {σ : Sg} {q : (Int ⊕ Nat) × Sg}, f σ = some q → q.2 = σ) (h : ∃ (k : Int) (p1 p2 : Sg), wrq js (f σ1) = some (k, p1) ∧ wrq js (f σ2) = some (k, p2) ∧ RelW p1 τ ∧ RelW p2 τ) : ∃ k : Int, wrq js (f σ1) = some (k, σ1) ∧ wrq js (f σ2) = some (k, σ2) := by
  obtain ⟨k, p1, p2, g1, g2, -, -⟩ := h
  obtain ⟨q1, z1, -, rfl⟩ := wrq_inv g1
  obtain ⟨q2, z2, -, rfl⟩ := wrq_inv g2
  rw [hs z1] at g1
  rw [hs z2] at g2
  exact ⟨k, g1, g2⟩
theorem s_bound {a : Int} (h1 : RelW σ1 τ) (h2 : RelW σ2 τ) : ∃ k : Int, wrq [0] (F_X10_bound a σ1) = some (k, σ1) ∧ wrq [0] (F_X10_bound a σ2) = some (k, σ2) := by
  have hw : ∀ {σ : Sg}, RelW σ τ → ∃ q r, F_X10_bound a σ = some q ∧ F_X11_bound a τ = some r ∧ Ag [(0, 1)] q.1 r.1 (r.2 0 0) ∧ RelW q.2 r.2 := fun {σ} h => by
    rcases op_bound a h.1.2.2.2.2.2 with o | ⟨v, o⟩
    · exact o.op h
    · exact o.op h.z
  exact s_obs (τ := τ) (fun h => st_bound h) (tw_s (f := F_X10_bound a) (js := [0]) (hw h1) (hw h2) (by decide) rfl (fun q hq => by rw [st_bound hq]; exact h1) (fun q hq => by rw [st_bound hq]; exact h2))
theorem s_viewAt {a : Int} (h1 : RelW σ1 τ) (h2 : RelW σ2 τ) : ∃ k : Int, wrq [0] (F_X10_viewAt a σ1) = some (k, σ1) ∧ wrq [0] (F_X10_viewAt a σ2) = some (k, σ2) := by
  have hw : ∀ {σ : Sg}, RelW σ τ → ∃ q r, F_X10_viewAt a σ = some q ∧ F_X11_viewAt a τ = some r ∧ Ag [(0, 1)] q.1 r.1 (r.2 0 0) ∧ RelW q.2 r.2 := fun {σ} h => by
    rcases op_viewAt a h.1.2.2.2.2.2 with o | ⟨v, o⟩
    · exact o.op h
    · exact o.op h.z
  exact s_obs (τ := τ) (fun h => st_viewAt h) (tw_s (f := F_X10_viewAt a) (js := [0]) (hw h1) (hw h2) (by decide) rfl (fun q hq => by rw [st_viewAt hq]; exact h1) (fun q hq => by rw [st_viewAt hq]; exact h2))
theorem s_taken {a : Int} (h1 : RelW σ1 τ) (h2 : RelW σ2 τ) : ∃ k : Int, wrq [0] (F_X10_taken a σ1) = some (k, σ1) ∧ wrq [0] (F_X10_taken a σ2) = some (k, σ2) := by
  have hw : ∀ {σ : Sg}, RelW σ τ → ∃ q r, F_X10_taken a σ = some q ∧ F_X11_taken a τ = some r ∧ Ag [(0, 1)] q.1 r.1 (r.2 0 0) ∧ RelW q.2 r.2 := fun {σ} h => by
    rcases op_taken a h.1.2.2.2.2.1 with o | ⟨v, o⟩
    · exact o.op h
    · exact o.op h.z
  exact s_obs (τ := τ) (fun h => st_taken h) (tw_s (f := F_X10_taken a) (js := [0]) (hw h1) (hw h2) (by decide) rfl (fun q hq => by rw [st_taken hq]; exact h1) (fun q hq => by rw [st_taken hq]; exact h2))
theorem loopA_ok (rt : inRt τ) (n2 : Int) : ∀ (D : Nat) (k : Int) (a b : Sg), k + (D : Int) = n2 → RelW a τ → RelW b τ → ∃ a' b', LoopA n2 D k a b a' b' ∧ RelW a' τ ∧ RelW b' τ
  | 0, k, a, b, hk, h1, h2 => ⟨a, b, ⟨by omega, rfl, rfl⟩, h1, h2⟩
  | D + 1, k, a, b, hk, h1, h2 => by
    obtain ⟨t, t1, t2⟩ := s_taken (a := k) h1 h2
    obtain ⟨u, ra, rb, u1, u2, u3, u4⟩ := s_isUsed (a := k) h1 h2 rt
    obtain ⟨a', b', l1, l2, l3⟩ := loopA_ok rt n2 D (k + 1) ra rb (by omega) u3 u4
    exact ⟨a', b', ⟨by omega, t, u, a, b, ra, rb, t1, t2, u1, u2, l1⟩, l2, l3⟩
theorem inv_alike {l : Launch} (hl : l.stackTraces = false) {ν : Sg} (x : Int) (h : Inv2 σ1 σ2 ν) (hr : RBs [σ1, σ2, ν]) : ∃ p1 p2 : Sg, Inv2 p1 p2 ν ∧ ∀ (d : Nat) (ax ay : List Nat) (an a0 b0 : Nat), 161 ≤ d → ax[0]? = some a0 → ay[0]? = some b0 → LC l d 60 m_L_alike.2.1 (wsM m_L_alike.2.1 m_L_alike.2.2.1 m_L_alike.2.2.2.1 m_L_alike.2.2.2.2) [.inr 0, .inr 1, .inr 2, .inl x] [a0, b0, an] [(ax, LAYC), (ay, LAYC), FN an] [σ1, σ2, ν] (some 1) [p1, p2, ν] := by
  obtain ⟨τ, h1, h2, hc, rt⟩ := inv_n h (rbs_1 hr)
  have hb := rel_b h1
  have hc2 : ν 0 2 = τ 0 23 := hc.2.2.1
  obtain ⟨kb, b1, b2⟩ := s_bound (a := jrem x 6) h1 h2
  obtain ⟨kv, v1, v2⟩ := s_viewAt (a := jrem x 3) h1 h2
  obtain ⟨km, a1, c1, m1, m2, m3, m4⟩ := s_missing h1 h2 rt
  obtain ⟨ks, a2, c2, s1, s2, s3, s4⟩ := s_size (a := 2) (b := true) m3 m4 rt
  obtain ⟨kt, a3, c3, t1, t2, t3, t4⟩ := s_size (a := 3) (b := decide (jrem x 2 = 0)) s3 s4 rt
  obtain ⟨ke, a4, c4, e1, e2, e3, e4⟩ := s_example (a := jrem x 40) t3 t4 rt
  obtain ⟨a5, c5, l1, l2, l3⟩ := loopA_ok rt (ν 0 2) (ν 0 2).toNat 0 a4 c4 (by omega) e3 e4
  have ht : F_X10_tests σ1 = F_X10_tests σ2 := (op_tests h1.1.2.2.2.2.2).1.trans (op_tests h2.1.2.2.2.2.2).1.symm
  have hv : F_X10_views σ1 = F_X10_views σ2 := (op_views h1.1.2.2.2.2.2).1.trans (op_views h2.1.2.2.2.2.2).1.symm
  exact ⟨a5, c5, ⟨τ, l2, l3, hc⟩, fun d ax ay an a0 b0 hd hax hay => lc_alike l hl d hd ax ay an a0 b0 hax hay x σ1 σ2 ν a1 a2 a3 a4 a5 c1 c2 c3 c4 c5 kb kv km ks kt ke (by omega) ht hv b1 b2 v1 v2 m1 m2 s1 s2 t1 t2 e1 e2 (ν 0 2).toNat (by omega) l1⟩
end OBS
