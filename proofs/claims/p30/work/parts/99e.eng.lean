/-! the plain order by what is known, its views noted -/
def psT (τ : Sg) (P : Pth) : Nat → Nat → XS → Ask × XS
  | 0, _, x => ((2, 0, 0), x)
  | d + 1, c, x => match (tryS τ (envT P) c x).1 with
    | .inl true => if fk P c = true then psT τ P d (c + 1) (tryS τ (envT P) c x).2 else (if τ 22 c = -1 then (0, (c : Int), 0) else (5, (c : Int), 0), (tryS τ (envT P) c x).2)
    | .inl false => psT τ P d (c + 1) (tryS τ (envT P) c x).2
    | .inr a => (a, (tryS τ (envT P) c x).2)
theorem psT_f {τ : Sg} {P : Pth} {d c : Nat} {x : XS} (h : (tryS τ (envT P) c x).1 = .inl false) : psT τ P (d + 1) c x = psT τ P d (c + 1) (tryS τ (envT P) c x).2 := by
  show (match (tryS τ (envT P) c x).1 with | .inl true => _ | .inl false => _ | .inr a => _) = _
  rw [h]
theorem psT_t {τ : Sg} {P : Pth} {d c : Nat} {x : XS} (h : (tryS τ (envT P) c x).1 = .inl true) : psT τ P (d + 1) c x = if fk P c = true then psT τ P d (c + 1) (tryS τ (envT P) c x).2 else (if τ 22 c = -1 then (0, (c : Int), 0) else (5, (c : Int), 0), (tryS τ (envT P) c x).2) := by
  show (match (tryS τ (envT P) c x).1 with | .inl true => _ | .inl false => _ | .inr a => _) = _
  rw [h]
theorem psT_a {τ : Sg} {P : Pth} {d c : Nat} {x : XS} {a : Ask} (h : (tryS τ (envT P) c x).1 = .inr a) : psT τ P (d + 1) c x = (a, (tryS τ (envT P) c x).2) := by
  show (match (tryS τ (envT P) c x).1 with | .inl true => _ | .inl false => _ | .inr a => _) = _
  rw [h]
/-- a guard that failed is of a case that matched -/
def FM (τ : Sg) (P : Pth) : Prop := ∀ c, fk P c = true → (tryK τ P c).1 = .inl true
theorem psT_seek {τ : Sg} {P : Pth} (hM : FM τ P) : ∀ (d c : Nat) (x : XS), AgP P x.2.2 → (psT τ P d c x).1 = seekS τ P d c
  | 0, _, _, _ => rfl
  | d + 1, c, x, h => by
    obtain ⟨k1, k2, -⟩ := try_K (τ := τ) (c := c) h
    have ih := psT_seek hM d (c + 1) _ k2
    rw [seekS_s, ← k1]
    rcases res_c (tryS τ (envT P) c x) with e | e | ⟨a, e⟩
    · rw [psT_t e, e]
      by_cases g : fk P c = true
      · rw [if_pos g, if_pos g]; exact ih
      · rw [if_neg g, if_neg g]
    · rw [psT_f e, e]
      by_cases g : fk P c = true
      · rw [if_pos g]; exact ih
      · rw [if_neg g]; exact ih
    · rw [psT_a e, e]
      by_cases g : fk P c = true
      · have := hM c g
        rw [← k1, e] at this; cases this
      · rw [if_neg g]
theorem psT_S {τ : Sg} {P : Pth} : ∀ (d c : Nat) (x : XS), Lat x (psT τ P d c x).2
  | 0, _, _ => Lat.rfl'
  | d + 1, c, x => by
    have h1 := try_S (τ := τ) (P := P) (c := c) (x := x)
    rcases res_c (tryS τ (envT P) c x) with e | e | ⟨a, e⟩
    · rw [psT_t e]
      split
      · exact h1.trans (psT_S d (c + 1) _)
      · exact h1
    · rw [psT_f e]; exact h1.trans (psT_S d (c + 1) _)
    · rw [psT_a e]; exact h1
theorem psT_F {τ : Sg} {P : Pth} : ∀ (d c : Nat) (x : XS), x.2.2 = vwP P → (psT τ P d c x).2.2.2 = vwP P
  | 0, _, _, h => h
  | d + 1, c, x, h => by
    have h1 := try_F (τ := τ) (c := c) h
    rcases res_c (tryS τ (envT P) c x) with e | e | ⟨a, e⟩
    · rw [psT_t e]
      split
      · exact psT_F d (c + 1) _ h1
      · exact h1
    · rw [psT_f e]; exact psT_F d (c + 1) _ h1
    · rw [psT_a e]; exact h1
theorem psT_L {τ : Sg} {P : Pth} {q : Ask × Nat} (hu : q.1.1 = 3 → hk P q.1.2.1 = -9) (hw : q.1.1 = 4 → vk P q.1.2.2 q.1.2.1 = -9) (hk3 : q.1.1 = 3 ∨ q.1.1 = 4 ∨ q.1.1 = 5) : ∀ (d c : Nat) (x : XS), (psT τ P d c x).2.2.2 = vwP P → (q.1.1 = 3 → (psT τ P d c x).1.1 = 3) → (¬ q.1.1 = 3 → (psT τ P d c x).1 = q.1) →
    (psT τ (q :: P) d c x).2.2.2 = vwP (q :: P) ∧ (psT τ P d c x).2.2.1 ≤ (psT τ (q :: P) d c x).2.2.1 ∧ ((psT τ P d c x).1 = q.1 → q.1.1 = 3 → (psT τ P d c x).2.2.1 + 1 ≤ (psT τ (q :: P) d c x).2.2.1)
  | 0, c, x, _, h1, h2 => by
    exfalso
    by_cases g : q.1.1 = 3
    · have := h1 g
      exact absurd this (by show ¬ (2 : Int) = 3; omega)
    · have h3 := h2 g
      have h4 : q.1.1 = 2 := by rw [← h3]; rfl
      omega
  | d + 1, c, x, hf, h1, h2 => by
    have hJ := try_L (τ := τ) hu hw (c := c) (x := x)
    rcases res_c (tryS τ (envT P) c x) with e | e | ⟨a, e⟩
    · have e2 : tryS τ (envT (q :: P)) c x = tryS τ (envT P) c x := by
        rcases hJ with ⟨b, -, h⟩ | ⟨a, h, -⟩
        · exact h
        · rw [e] at h; cases h
      have e3 : (tryS τ (envT (q :: P)) c x).1 = .inl true := by rw [e2]; exact e
      rw [psT_t e] at hf h1 h2 ⊢
      rw [psT_t e3, e2]
      by_cases g : fk P c = true
      · have g2 : fk (q :: P) c = true := by show (decide _ || fk P c) = true; rw [g, Bool.or_true]
        rw [if_pos g] at hf h1 h2 ⊢
        rw [if_pos g2]
        exact psT_L hu hw hk3 d (c + 1) _ hf h1 h2
      · rw [if_neg g] at hf h1 h2 ⊢
        have hk5 : q.1.1 = 5 := by
          rcases hk3 with k | k | k
          · have := h1 k
            split at this
            · exact absurd this (by show ¬ (0 : Int) = 3; omega)
            · exact absurd this (by show ¬ (5 : Int) = 3; omega)
          · have := h2 (by omega)
            split at this
            · rw [← this] at k; exact absurd k (by show ¬ (0 : Int) = 4; omega)
            · rw [← this] at k; exact absurd k (by show ¬ (5 : Int) = 4; omega)
          · exact k
        have hv : vwP (q :: P) = vwP P := vw_n (by omega)
        rw [hv]
        split
        · exact ⟨by rw [← hv]; exact psT_F d (c + 1) _ (by rw [hv]; exact hf), (psT_S d (c + 1) _).2, fun _ u => by omega⟩
        · exact ⟨hf, Int.le_refl _, fun _ u => by omega⟩
    · have e2 : tryS τ (envT (q :: P)) c x = tryS τ (envT P) c x := by
        rcases hJ with ⟨b, -, h⟩ | ⟨a, h, -⟩
        · exact h
        · rw [e] at h; cases h
      have e3 : (tryS τ (envT (q :: P)) c x).1 = .inl false := by rw [e2]; exact e
      rw [psT_f e] at hf h1 h2 ⊢
      rw [psT_f e3, e2]
      exact psT_L hu hw hk3 d (c + 1) _ hf h1 h2
    · rw [psT_a e] at hf h1 h2 ⊢
      rcases hJ with ⟨b, h, -⟩ | ⟨a', h3, h4⟩
      · rw [e] at h; cases h
      · rw [e] at h3
        cases h3
        obtain ⟨k1, k2, k3⟩ := h4 hf (fun u => h2 (by omega))
        have hl : Lat (tryS τ (envT (q :: P)) c x).2 (psT τ (q :: P) (d + 1) c x).2 ∧ (psT τ (q :: P) (d + 1) c x).2.2.2 = vwP (q :: P) := by
          rcases res_c (tryS τ (envT (q :: P)) c x) with z | z | ⟨a, z⟩
          · rw [psT_t z]
            split
            · exact ⟨psT_S d (c + 1) _, psT_F d (c + 1) _ k1⟩
            · exact ⟨Lat.rfl', k1⟩
          · rw [psT_f z]; exact ⟨psT_S d (c + 1) _, psT_F d (c + 1) _ k1⟩
          · rw [psT_a z]; exact ⟨Lat.rfl', k1⟩
        exact ⟨hl.2, Int.le_trans k2 hl.1.2, fun u1 u2 => Int.le_trans (k3 u1 u2) hl.1.2⟩
/-- what matched goes on matching -/
theorem tryK_mono {τ : Sg} {P : Pth} {q : Ask × Nat} (hu : q.1.1 = 3 → hk P q.1.2.1 = -9) (hw : q.1.1 = 4 → vk P q.1.2.2 q.1.2.1 = -9) {c : Nat} {b : Bool} (h : (tryK τ P c).1 = .inl b) : (tryK τ (q :: P) c).1 = .inl b ∧ (tryK τ (q :: P) c).2.1 = (tryK τ P c).2.1 := by
  obtain ⟨a1, -, a3⟩ := try_K (τ := τ) (P := P) (c := c) (x := x00) AgP.nil
  obtain ⟨b1, -, b3⟩ := try_K (τ := τ) (P := q :: P) (c := c) (x := x00) AgP.nil
  rcases try_L (τ := τ) hu hw (c := c) (x := x00) with ⟨b', h1, h2⟩ | ⟨a, h1, -⟩
  · rw [← b1, ← b3, ← a3, h2, a1]; exact ⟨h, rfl⟩
  · rw [a1, h] at h1; cases h1
def nH : Pth → Int
  | [] => 0
  | q :: P => nH P + if q.1.1 = 3 then 1 else 0
/-- who asks goes by the plain order -/
theorem qry_sk {τ : Sg} {m : Bool} {P : Pth} (h : (qry τ m P).1 = 3 ∨ (qry τ m P).1 = 4 ∨ (qry τ m P).1 = 5) : qry τ m P = seekM τ m P := by
  cases P with
  | nil => rfl
  | cons q P =>
    rw [qry_c] at h ⊢
    by_cases c1 : q.1.1 = 5 ∧ q.2 = 0
    · rw [if_pos c1] at h; exact absurd h (by show ¬ ((0 : Int) = 3 ∨ (0 : Int) = 4 ∨ (0 : Int) = 5); omega)
    rw [if_neg c1] at h ⊢
    by_cases c2 : q.1.1 = 5 ∧ τ 22 q.1.2.1.toNat = 3
    · rw [if_pos c2] at h; exact absurd h (by show ¬ ((1 : Int) = 3 ∨ (1 : Int) = 4 ∨ (1 : Int) = 5); omega)
    rw [if_neg c2]
theorem wid_k {τ : Sg} {a : Ask} {i : Nat} (h : i < wid τ a) : a.1 = 3 ∨ a.1 = 4 ∨ a.1 = 5 := by
  by_cases c : a.1 = 3 ∨ a.1 = 4 ∨ a.1 = 5
  · exact c
  · unfold wid at h
    rw [if_neg (by omega), if_neg (by omega), if_neg (by omega)] at h
    exact absurd h (by simp)
theorem seekM_k {τ : Sg} {m : Bool} {P : Pth} : ((seekM τ m P).1 = 3 → (seekS τ P (τ 0 23).toNat 0).1 = 3) ∧ (¬ (seekM τ m P).1 = 3 → seekM τ m P = seekS τ P (τ 0 23).toNat 0) ∧ (m = false → seekM τ m P = seekS τ P (τ 0 23).toNat 0) := by
  unfold seekM
  by_cases c : m = true ∧ (seekS τ P (τ 0 23).toNat 0).1 = 3
  · rw [if_pos c]; exact ⟨fun _ => c.2, fun z => absurd rfl z, fun z => by rw [z] at c; exact absurd c.1 (by decide)⟩
  · rw [if_neg c]; exact ⟨fun z => z, fun _ => rfl, fun _ => rfl⟩
/-- along a way: the plain order has noted just what the way ran, in its order -/
theorem way_ok {τ : Sg} {m : Bool} (hT : CtxT τ) : ∀ (P : Pth), AP τ m P → FM τ P ∧ (psT τ P (τ 0 23).toNat 0 xI).2.2.2 = vwP P ∧ (m = false → nH P ≤ (psT τ P (τ 0 23).toNat 0 xI).2.2.1)
  | [], _ => ⟨fun c h => (by cases h), psT_F (τ 0 23).toNat 0 xI rfl, fun _ => (psT_S (τ := τ) (P := []) (τ 0 23).toNat 0 xI).2⟩
  | q :: P, h => by
    obtain ⟨hF, hV, hW, hM, hWW, hG⟩ := hT
    have hKP := AP.kp hW hF hM hWW h
    obtain ⟨h1, h2, h3⟩ := h
    obtain ⟨ih1, ih2, ih3⟩ := way_ok ⟨hF, hV, hW, hM, hWW, hG⟩ P h1
    have hk3 := wid_k h3
    have hsk : q.1 = seekM τ m P := by rw [h2]; exact qry_sk (by rw [← h2]; exact hk3)
    have hps := psT_seek ih1 (τ 0 23).toNat 0 xI AgP.nil
    obtain ⟨s1, s2, s3⟩ := seekM_k (τ := τ) (m := m) (P := P)
    have hu := hKP.unk
    have hw := hKP.unv
    obtain ⟨k1, k2, k3⟩ := psT_L (τ := τ) hu hw hk3 (τ 0 23).toNat 0 xI ih2 (fun u => by rw [hps]; exact s1 (by rw [← hsk]; exact u)) (fun u => by rw [hps, hsk]; exact (s2 (by rw [← hsk]; exact u)).symm)
    refine ⟨fun c hc => ?_, k1, fun hm => ?_⟩
    · by_cases g : fk P c = true
      · exact (tryK_mono hu hw (ih1 c g)).1
      · have hc2 : (decide (q.1.1 = 5 ∧ q.1.2.1 = (c : Int) ∧ 0 < q.2) || fk P c) = true := hc
        have hg : fk P c = false := by cases z : fk P c with
          | true => exact absurd z g
          | false => rfl
        rw [hg, Bool.or_false, decide_eq_true_eq] at hc2
        have hq := seekM_ok (m := m) hW hF hM (KP.hok hF hM hKP.1) (KP.vok hWW hKP.1)
        rw [← hsk] at hq
        have ht : (tryK τ P q.1.2.1.toNat).1 = .inl true := by
          rcases hq with (⟨z, -⟩ | ⟨z, -⟩) | ⟨-, -, -, -, -, z⟩ | z | ⟨z, -⟩
          · omega
          · omega
          · exact z
          · rw [z] at hc2; exact absurd hc2.1 (by show ¬ (2 : Int) = 5; omega)
          · omega
        rw [hc2.2.1, Int.toNat_natCast] at ht
        exact (tryK_mono hu hw ht).1
    · have i3 := ih3 hm
      show nH P + (if q.1.1 = 3 then 1 else 0) ≤ _
      by_cases g : q.1.1 = 3
      · rw [if_pos g]
        have := k3 (by rw [hps, hsk]; exact (s3 hm).symm) g
        omega
      · rw [if_neg g]; omega
