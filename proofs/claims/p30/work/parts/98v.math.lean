theorem b184 {τ s : Sg} {p : Nat} {x2 x4 x5 x7 : Int} (hW : WFP τ) (hp : (p : Int) < τ 0 9) (h : FrN τ s) : B_X11_needsOf_184 x2 p x4 x5 x7 s = some (.inl (x2, s)) := by
  have w2 := hW.2.1
  unfold B_X11_needsOf_184 B_X11_needsOf_185 B_X11_needsOf_216
  by_cases c6 : x5 = 6
  · rw [if_pos c6, rdn_ok (by omega) (by omega), Option.bind_some]
    split
    · rw [rdn_ok (by omega) (by omega), Option.bind_some]; exact pt_n
    · exact pt_n
  · rw [if_neg c6]; exact pt_n
theorem b180 {τ s : Sg} {p c : Nat} {pl f0 : Int} {S : List (Int × Int)} {f : Int → Nat} {D : Int → Prop} (hW : WFP τ) (hp : (p : Int) < τ 0 9) (hpl : 0 ≤ pl ∧ pl ≤ 468) (hf0 : 0 ≤ f0 ∧ f0 ≤ 9) (h : FrN τ s) (hs : wkS s S) (hN : NI s c f D) (hl : S.length + 3 ≤ 256) : ∃ s', B_X11_needsOf_180 S.length p pl (τ 8 p) f0 s = some (.inl ((((ptL τ p (decide (τ 8 p = 1 ∨ τ 8 p = 4)) pl (skipE τ p f0)).map toI ++ S).length : Nat), s')) ∧ FrN τ s' ∧ wkS s' ((ptL τ p (decide (τ 8 p = 1 ∨ τ 8 p = 4)) pl (skipE τ p f0)).map toI ++ S) ∧ NI s' c f D := by
  have w2 := hW.2.1
  have e9 := h.1 9 (by omega) (by omega)
  have e10 := h.1 10 (by omega) (by omega)
  have hpp : ((p : Int)).toNat = p := by omega
  unfold B_X11_needsOf_180 B_X11_needsOf_185 B_X11_needsOf_216
  by_cases c6 : τ 8 p = 6
  · have hb := hW.g6 hp c6
    rw [if_pos c6, rdn_ok (by omega) (by omega), Option.bind_some, hpp, e10]
    by_cases c2 : τ 10 p = 2
    · have e : skipE τ p f0 = f0 - τ 9 p := by unfold skipE; rw [if_pos ⟨c6, c2⟩]
      rw [if_pos c2, rdn_ok (by omega) (by omega), Option.bind_some, hpp, e9, wrap_id (by omega) (by omega), ← e]
      exact pt_c hW hp hpl (by omega) h hs hN hl
    · have e : skipE τ p f0 = 0 := by unfold skipE; rw [if_neg (fun q => c2 q.2)]
      rw [if_neg c2, e]
      exact pt_c hW hp hpl (by omega) h hs hN hl
  · have e : skipE τ p f0 = 0 := by unfold skipE; rw [if_neg (fun q => c6 q.1)]
    rw [if_neg c6, e]
    exact pt_c hW hp hpl (by omega) h hs hN hl
theorem isRight_n {τ s : Sg} {p : Nat} {f : Int} (hW : WFP τ) (hp : (p : Int) < τ 0 9) (h : FrN τ s) (hf : 2 ≤ τ 8 p) : F_X11_isRight p f s = some (isR τ p f) := by
  -- a state with the same patterns, that is framed
  have key : F_X11_isRight p f s = F_X11_isRight p f τ := by
    unfold F_X11_isRight F_X11_fitsLength rdn
    rw [h.1 8 (by omega) (by omega), h.1 9 (by omega) (by omega), h.1 10 (by omega) (by omega)]
  rw [key]
  exact isRight_c hW hp ⟨fun _ _ => rfl, fun _ _ => rfl⟩ hf
/-- the loop over what waits -/
abbrev NLw (c : Nat) : (Int × Sg) → Option ((Int × Sg) ⊕ Sg) := fun a => L_X11_needsOf_46 c a.1 a.2
theorem nl_1 {τ s : Sg} {c p : Nat} {pl : Int} {S : List (Int × Int)} (hW : WFP τ) (hp : (p : Int) < τ 0 9) (h : FrN τ s) (hs : wkS s (((p : Int), pl) :: S)) (hl : S.length < 256) : NLw c (((S.length + 1 : Nat) : Int), s) = if τ 8 p = 2 ∨ τ 8 p = 3 ∨ τ 8 p = 6 then (F_X11_factAt pl s).bind fun q => B_X11_needsOf_117 c S.length p pl (τ 8 p) true q.1 q.2 else B_X11_needsOf_138 S.length p pl (τ 8 p) 0 s := by
  have w2 := hW.2.1
  have e8 := h.1 8 (by omega) (by omega)
  obtain ⟨q1, q2, q3⟩ := hs
  show L_X11_needsOf_46 c ((S.length + 1 : Nat) : Int) s = _
  unfold L_X11_needsOf_46
  rw [if_neg (by omega), wrap_id (z := ((S.length + 1 : Nat) : Int) + -1) (by omega) (by omega), show ((S.length + 1 : Nat) : Int) + -1 = S.length by omega, rdn_ok (by omega) (by omega), Option.bind_some, rdn_ok (by omega) (by omega), Option.bind_some, show ((S.length : Nat) : Int).toNat = S.length by omega, q1, q2, rdn_ok (by omega) (by omega), Option.bind_some, show ((p : Nat) : Int).toNat = p by omega, e8]
  have b1 : B_X11_needsOf_95 c S.length p pl (τ 8 p) s = (F_X11_factAt pl s).bind fun q => B_X11_needsOf_117 c S.length p pl (τ 8 p) true q.1 q.2 := rfl
  have b2 : B_X11_needsOf_100 c S.length p pl (τ 8 p) false s = B_X11_needsOf_138 S.length p pl (τ 8 p) 0 s := rfl
  rw [b1, b2]
  by_cases c2 : τ 8 p = 2
  · rw [if_pos c2, if_pos (Or.inl c2)]
  · rw [if_neg c2]
    by_cases c3 : τ 8 p = 3
    · rw [if_pos c3, if_pos (Or.inr (Or.inl c3))]
    · rw [if_neg c3]
      by_cases c6 : τ 8 p = 6
      · rw [if_pos c6, if_pos (Or.inr (Or.inr c6))]
      · rw [if_neg c6, if_neg (by omega)]
theorem szL_pt {τ : Sg} {p k : Nat} {e : Bool} {pl sk : Int} (hb : -1 ≤ prt τ p k) : szL τ (pt1 τ p e pl sk k) = szo τ (prt τ p k) := by
  unfold pt1 szo
  by_cases c : prt τ p k = -1
  · rw [if_pos c, if_pos (by omega)]; rfl
  · have hb0 : ¬ prt τ p k < 0 := by omega
    rw [if_neg c, szL_cons, szL_nil, if_neg hb0]; exact Int.add_zero _
theorem szL_ptL {τ : Sg} {p : Nat} {e : Bool} {pl sk : Int} (hW : WFP τ) (hp : (p : Int) < τ 0 9) : szL τ (ptL τ p e pl sk) + 1 = τ 14 p := by
  unfold ptL
  rw [szL_app, szL_app, szL_pt (hW.pb hp (by omega)).1, szL_pt (hW.pb hp (by omega)).1, szL_pt (hW.pb hp (by omega)).1, (hW.sz hp).1]
  omega
theorem pt_parts {τ : Sg} {p : Nat} {pl f : Int} {q : Nat × Int} : q ∈ ptL τ p false pl (skipE τ p f) ↔ q ∈ partsL τ p pl f := by
  have e : ∀ k, pt1 τ p false pl (skipE τ p f) k = part1 τ p pl f k := fun k => rfl
  unfold ptL partsL
  rw [e, e, e]
  simp only [List.mem_append]
  constructor
  · rintro (z | z | z)
    · exact Or.inr (Or.inr z)
    · exact Or.inr (Or.inl z)
    · exact Or.inl z
  · rintro (z | z | z)
    · exact Or.inr (Or.inr z)
    · exact Or.inr (Or.inl z)
    · exact Or.inl z
theorem szL_len {τ : Sg} : ∀ {L : List (Nat × Int)}, (∀ q ∈ L, 1 ≤ τ 14 q.1) → (L.length : Int) ≤ szL τ L
  | [], _ => by rw [szL_nil]; exact Int.le_refl _
  | q :: L, h => by
    have := szL_len (L := L) (fun z hz => h z (List.mem_cons_of_mem _ hz))
    have := h q List.mem_cons_self
    rw [szL_cons, List.length_cons]
    omega
def NdOut (τ s : Sg) (c : Nat) (f : Int → Nat) (D : Int → Prop) (S : List (Int × Int)) (m : Nat) (X : List Int) (z : Int) : Prop :=
  ∃ (j : Nat) (s' : Sg), (j : Int) ≤ z ∧ Rch (NLw c) j ((m : Int), s) ((S.length : Int), s') ∧ FrN τ s' ∧ wkS s' S ∧ NI s' c f (fun y => D y ∨ y ∈ X)
def NdG (τ : Sg) (P : Pth) (c : Nat) (f : Int → Nat) (n p : Nat) (pl : Int) : Prop := ∀ (S : List (Int × Int)) (s : Sg) (D : Int → Prop), FrN τ s → wkS s (((p : Int), pl) :: S) → NI s c f D → (S.length : Int) + τ 14 p ≤ 250 → NdOut τ s c f D S (S.length + 1) (nd τ P n p pl) (τ 14 p)
theorem ndL_c {τ : Sg} {P : Pth} {c n : Nat} {f : Int → Nat} : ∀ (L : List (Nat × Int)), (∀ q ∈ L, NdG τ P c f n q.1 q.2 ∧ 1 ≤ τ 14 q.1) → ∀ (S : List (Int × Int)) (s : Sg) (D : Int → Prop), FrN τ s → wkS s (L.map toI ++ S) → NI s c f D → (S.length : Int) + szL τ L ≤ 250 → NdOut τ s c f D S (L.map toI ++ S).length (L.flatMap (fun q => nd τ P n q.1 q.2)) (szL τ L)
  | [], _, S, s, D, h, hs, hN, hl => ⟨0, s, by rw [szL_nil]; omega, Rch.nil, h, hs, hN.iff (fun x => by simp)⟩
  | q :: L, hL, S, s, D, h, hs, hN, hl => by
    have hz := szL_len (τ := τ) (L := L) (fun z hz => (hL z (List.mem_cons_of_mem _ hz)).2)
    rw [szL_cons] at hl ⊢
    have hq := hL q List.mem_cons_self
    obtain ⟨j1, s1, a1, a2, a3, a4, a5⟩ := hq.1 (L.map toI ++ S) s D h hs hN (by rw [List.length_append, List.length_map]; omega)
    obtain ⟨j2, s2, b1, b2, b3, b4, b5⟩ := ndL_c L (fun z hz => hL z (List.mem_cons_of_mem _ hz)) S s1 _ a3 a4 a5 (by omega)
    refine ⟨j1 + j2, s2, by omega, a2.trans b2, b3, b4, b5.iff (fun x => ?_)⟩
    rw [List.flatMap_cons, List.mem_append, or_assoc]
theorem nd_parts_pos {τ : Sg} {P : Pth} {p : Nat} {pl : Int} (hW : WFP τ) (hF : WFK (τ 1) (τ 2) (τ 3)) (hH : HOK τ (hk P)) (ho : okP τ (hk P) p pl) (c0 : ¬ τ 8 p = 0) (c1 : ¬ τ 8 p = 1) (c4 : ¬ τ 8 p = 4) (c5 : ¬ τ 8 p = 5) (hpl : 1 ≤ pl) (c9 : ¬ hk P pl = -9) (cr : isR τ p (hk P pl) = true) : ∀ q ∈ partsL τ p pl (hk P pl), okP τ (hk P) q.1 q.2 ∧ 1 ≤ q.2 := by
  intro q hq
  have hp := ho.1
  have h468 := PB_468 (d := τ 13 p)
  have hg : 1 ≤ pl ∧ pl ≤ PB (τ 13 p) ∧ 0 ≤ kd τ (hk P) pl ∧ (τ 12 p = -1 ∨ τ 12 p = kd τ (hk P) pl) := by
    rcases ho.2 with g | g
    · omega
    · exact g
  have hok := ho.parts hW hF hH c0 c1 c4 c5 hpl c9 cr q hq
  refine ⟨hok, ?_⟩
  obtain ⟨k, k3, kn, q1, q2⟩ := partsL_mem hq
  rcases hok.2 with g | g
  · have h36 : τ 8 p = 6 → hk P pl ≤ 3 := fun q => (hH pl hpl (by omega) hg.2.2.1 c9).2.2.1 (by
      have := (hW.g6 hp q).2.2.1
      omega)
    have := skip_b hW hp h36 cr k3 kn
    omega
  · exact g.1
theorem nd_c {τ : Sg} {P : Pth} {c : Nat} {f : Int → Nat} (hW : WFP τ) (hF : WFK (τ 1) (τ 2) (τ 3)) (hH : HOK τ (hk P)) (hE : ∀ s, FrN τ s → ∀ pl, 0 ≤ pl → F_X11_factAt pl s = some (hk P pl, s)) (hf : ∀ y, f y ≤ 8) (hc : c < 8) : ∀ (n p : Nat) (pl : Int), okP τ (hk P) p pl → 1 ≤ pl → τ 14 p ≤ n → NdG τ P c f n p pl
  | 0, p, pl, ho, hpl, hn => by have := hW.ge ho.1; omega
  | n + 1, p, pl, ho, hpl, hn => by
    intro S s D h hs hN hl
    have hp := ho.1
    have hform := hW.form hp
    have hge := hW.ge hp
    have h468 := PB_468 (d := τ 13 p)
    have h1 := nl_1 (c := c) hW hp h hs (by omega)
    show NdOut τ s c f D S (S.length + 1) (ndG τ P (nd τ P n) p pl) (τ 14 p)
    have sub : ∀ k : Nat, k < 3 → ¬ prt τ p k = -1 → ((prt τ p k).toNat : Int) < τ 0 9 ∧ τ 14 (prt τ p k).toNat ≤ n := fun k k3 kn => by
      have := sz_part hW hp k3 kn
      exact ⟨by omega, by omega⟩
    -- no part is kept
    have none_ : ∀ (s1 : Sg) (X : List Int), NLw c (((S.length + 1 : Nat) : Int), s) = some (.inl ((S.length : Int), s1)) → FrN τ s1 → wkS s1 S → NI s1 c f (fun y => D y ∨ y ∈ X) → NdOut τ s c f D S (S.length + 1) X (τ 14 p) := fun s1 X e a b d => ⟨1, s1, by omega, Rch.one (f := NLw c) e, a, b, d⟩
    -- the parts are kept
    have some_ : ∀ (s1 : Sg) (L : List (Nat × Int)) (X : List Int), NLw c (((S.length + 1 : Nat) : Int), s) = some (.inl (((L.map toI ++ S).length : Nat), s1)) → FrN τ s1 → wkS s1 (L.map toI ++ S) → NI s1 c f D → szL τ L + 1 = τ 14 p → (∀ q ∈ L, okP τ (hk P) q.1 q.2 ∧ 1 ≤ q.2) → (∀ y, y ∈ L.flatMap (fun q => nd τ P n q.1 q.2) ↔ y ∈ X) → NdOut τ s c f D S (S.length + 1) X (τ 14 p) := fun s1 L X e a b d z hq hX => by
      have hsz : ∀ q ∈ L, 1 ≤ τ 14 q.1 := fun q hq' => (hW.ge (hq q hq').1.1).1
      have hle : ∀ q ∈ L, τ 14 q.1 ≤ szL τ L := by
        have : ∀ L : List (Nat × Int), (∀ q ∈ L, 1 ≤ τ 14 q.1) → ∀ q ∈ L, τ 14 q.1 ≤ szL τ L := by
          intro L
          induction L with
          | nil => intro _ q hq; cases hq
          | cons a L ih =>
            intro ha q hq
            have h1 := szL_len (τ := τ) (L := L) (fun z hz => ha z (List.mem_cons_of_mem _ hz))
            have h2 := ha a List.mem_cons_self
            rw [szL_cons]
            rcases List.mem_cons.mp hq with rfl | hq
            · omega
            · have := ih (fun z hz => ha z (List.mem_cons_of_mem _ hz)) q hq
              omega
        exact this L hsz
      obtain ⟨j, s2, b1, b2, b3, b4, b5⟩ := ndL_c (τ := τ) (P := P) (c := c) (n := n) (f := f) L (fun q hq' => ⟨nd_c hW hF hH hE hf hc n q.1 q.2 (hq q hq').1 (hq q hq').2 (by have := hle q hq'; omega), hsz q hq'⟩) S s1 D a b d (by omega)
      exact ⟨j + 1, s2, by omega, Rch.cons (f := NLw c) e b2, b3, b4, b5.iff (fun x => by rw [hX])⟩
    unfold ndG
    by_cases c05 : τ 8 p = 0 ∨ τ 8 p = 5
    · rw [if_pos c05]
      refine none_ s _ ?_ h hs.2.2 (hN.iff (fun x => by simp))
      rw [h1, if_neg (by omega)]
      unfold B_X11_needsOf_138
      rw [if_neg (by omega), if_neg (by omega), if_neg (by omega), if_neg (by omega)]
      exact b184 hW hp h
    rw [if_neg c05]
    by_cases c14 : τ 8 p = 1 ∨ τ 8 p = 4
    · obtain ⟨s1, a1, a2, a3, a4⟩ := b180 (f0 := 0) (pl := pl) hW hp (by
        rcases ho.2 with g | g
        · omega
        · omega) ⟨by omega, by omega⟩ h hs.2.2 hN (by omega)
      rw [decide_eq_true c14] at a1 a3
      refine some_ s1 _ _ ?_ a2 a3 a4 (szL_ptL hW hp) ?_ ?_
      · rw [h1, if_neg (by omega)]
        unfold B_X11_needsOf_138
        rcases c14 with z | z
        · rw [if_pos z]; exact a1
        · rw [if_neg (by omega), if_pos z]; exact a1
      · rcases c14 with z | z
        · obtain ⟨-, g0, g1, g2, -⟩ := hW.g1 hp z
          intro q hq
          have hL : ptL τ p true pl (skipE τ p 0) = [((prt τ p 0).toNat, pl)] := by
            unfold ptL pt1; rw [if_pos g1, if_pos g2, if_neg (show ¬ prt τ p 0 = -1 by omega), if_pos rfl]; rfl
          rw [hL, List.mem_singleton] at hq
          rw [hq]
          exact ⟨ho.name hW z, hpl⟩
        · have g := hW.g4 hp z
          have g0 := g.1
          have g1 := g.2.1
          have g2 := g.2.2.1
          clear g
          intro q hq
          have hL : ptL τ p true pl (skipE τ p 0) = [((prt τ p 1).toNat, pl), ((prt τ p 0).toNat, pl)] := by
            unfold ptL pt1; rw [if_pos g2, if_neg (show ¬ prt τ p 1 = -1 by omega), if_neg (show ¬ prt τ p 0 = -1 by omega), if_pos rfl]; rfl
          rw [hL] at hq
          rcases List.mem_cons.mp hq with rfl | hq
          · exact ⟨ho.alt hW z (k := 1) (by omega), hpl⟩
          · rw [List.mem_singleton] at hq
            rw [hq]
            exact ⟨ho.alt hW z (k := 0) (by omega), hpl⟩
      · intro y
        rcases c14 with z | z
        · obtain ⟨-, g0, g1, g2, -⟩ := hW.g1 hp z
          have hL : ptL τ p true pl (skipE τ p 0) = [((prt τ p 0).toNat, pl)] := by
            unfold ptL pt1; rw [if_pos g1, if_pos g2, if_neg (show ¬ prt τ p 0 = -1 by omega), if_pos rfl]; rfl
          rw [hL, if_pos z, List.flatMap_cons, List.flatMap_nil, List.append_nil]
        · have g := hW.g4 hp z
          have g0 := g.1
          have g1 := g.2.1
          have g2 := g.2.2.1
          clear g
          have hL : ptL τ p true pl (skipE τ p 0) = [((prt τ p 1).toNat, pl), ((prt τ p 0).toNat, pl)] := by
            unfold ptL pt1; rw [if_pos g2, if_neg (show ¬ prt τ p 1 = -1 by omega), if_neg (show ¬ prt τ p 0 = -1 by omega), if_pos rfl]; rfl
          rw [hL, if_neg (by omega), if_pos z, List.flatMap_cons, List.flatMap_cons, List.flatMap_nil, List.append_nil, List.mem_append, List.mem_append]
          exact or_comm
    rw [if_neg (by omega), if_neg (by omega)]
    have hhd : τ 8 p = 2 ∨ τ 8 p = 3 ∨ τ 8 p = 6 := by omega
    have hg : 1 ≤ pl ∧ pl ≤ PB (τ 13 p) ∧ 0 ≤ kd τ (hk P) pl ∧ (τ 12 p = -1 ∨ τ 12 p = kd τ (hk P) pl) := by
      rcases ho.2 with g | g
      · omega
      · exact g
    have h2 : NLw c (((S.length + 1 : Nat) : Int), s) = B_X11_needsOf_117 c S.length p pl (τ 8 p) true (hk P pl) s := by
      rw [h1, if_pos hhd, hE s h pl (by omega)]; rfl
    clear h1
    by_cases c9 : hk P pl = -9
    · rw [if_pos c9]
      obtain ⟨s1, n1, n2, n3, n4⟩ := need_c (x := pl) hN ⟨by omega, by omega⟩ hf hc
      have hfr := h.need n3 n4
      have hw := wkS_fr (n3 26 (by omega) (by omega) (by omega) (by omega)) (n3 50 (by omega) (by omega) (by omega) (by omega)) hs.2.2
      refine none_ s1 _ ?_ hfr hw (n2.iff (fun x => by rw [List.mem_singleton]))
      rw [h2]
      unfold B_X11_needsOf_117 B_X11_needsOf_138 B_X11_needsOf_163
      rw [if_pos rfl, if_pos c9, n1, Option.bind_some, if_neg (by omega), if_neg (by omega)]
      clear n1
      by_cases c3 : τ 8 p = 3
      · rw [if_pos c3, if_pos c9]; exact b184 hW hp hfr
      · rw [if_neg c3]
        by_cases c6 : τ 8 p = 6
        · rw [if_pos c6, if_pos c9]; exact b184 hW hp hfr
        · rw [if_neg c6]; exact b184 hW hp hfr
    rw [if_neg c9]
    have hH9 := hH pl hpl (by omega) hg.2.2.1 c9
    by_cases cr : isR τ p (hk P pl) = true
    · rw [if_pos cr]
      by_cases c2 : τ 8 p = 2
      · obtain ⟨-, g0, g1, g2, -⟩ := hW.g2 hp c2
        have hL : partsL τ p pl (hk P pl) = [] := by unfold partsL part1; rw [if_pos g0, if_pos g1, if_pos g2]; rfl
        rw [hL]
        refine none_ s _ ?_ h hs.2.2 (hN.iff (fun x => by simp))
        rw [h2]
        unfold B_X11_needsOf_117 B_X11_needsOf_138
        rw [if_pos rfl, if_neg c9, if_neg (by omega), if_neg (by omega), if_neg (by omega), if_neg (by omega)]
        exact b184 hW hp h
      · obtain ⟨s1, a1, a2, a3, a4⟩ := b180 (f0 := hk P pl) (pl := pl) hW hp ⟨by omega, by omega⟩ ⟨hH9.1, hH9.2.1⟩ h hs.2.2 hN (by omega)
        rw [decide_eq_false c14] at a1 a3
        refine some_ s1 _ _ ?_ a2 a3 a4 (szL_ptL hW hp) (fun q hq => nd_parts_pos hW hF hH ho (by omega) (by omega) (by omega) (by omega) hpl c9 cr q (pt_parts.mp hq)) (fun y => ?_)
        · rw [h2]
          unfold B_X11_needsOf_117 B_X11_needsOf_138 B_X11_needsOf_163
          rw [if_pos rfl, if_neg c9, if_neg (by omega), if_neg (by omega), isRight_n hW hp h (by omega), Option.bind_some, if_neg c9, if_pos cr]
          by_cases c3 : τ 8 p = 3
          · rw [if_pos c3]; exact a1
          · rw [if_neg c3, if_pos (by omega)]; exact a1
        · rw [List.mem_flatMap, List.mem_flatMap]
          constructor
          · rintro ⟨q, q1, q2⟩; exact ⟨q, pt_parts.mp q1, q2⟩
          · rintro ⟨q, q1, q2⟩; exact ⟨q, pt_parts.mpr q1, q2⟩
    · rw [if_neg cr]
      refine none_ s _ ?_ h hs.2.2 (hN.iff (fun x => by simp))
      rw [h2]
      unfold B_X11_needsOf_117 B_X11_needsOf_138 B_X11_needsOf_163
      rw [if_pos rfl, if_neg c9, if_neg (by omega), if_neg (by omega), isRight_n hW hp h (by omega), Option.bind_some, if_neg c9, if_neg cr]
      by_cases c3 : τ 8 p = 3
      · rw [if_pos c3]; exact b184 hW hp h
      · rw [if_neg c3]
        by_cases c6 : τ 8 p = 6
        · rw [if_pos c6]; exact b184 hW hp h
        · rw [if_neg c6]; exact b184 hW hp h
