/-! two ways of looking, side by side -/
theorem res_c (r : Res) : r.1 = .inl true ∨ r.1 = .inl false ∨ ∃ a, r.1 = .inr a := by
  obtain ⟨r1, r2⟩ := r
  cases r1 with
  | inl b => cases b with
    | true => exact Or.inl rfl
    | false => exact Or.inr (Or.inl rfl)
  | inr a => exact Or.inr (Or.inr ⟨a, rfl⟩)
section SIM
variable {τ : Sg} {E E' : EnvQ} {I : XS → XS → Prop} {J : Res → Res → Prop} {V : XS → Prop}
/-- what is asked of the two -/
def SimH (τ : Sg) (E E' : EnvQ) (I : XS → XS → Prop) (J : Res → Res → Prop) (V : XS → Prop) : Prop :=
  (∀ b x x', I x x' → J (.inl b, x) (.inl b, x')) ∧
  (∀ b r r', J r r' → r.1 = .inl b → r'.1 = .inl b ∧ I r.2 r'.2) ∧
  (∀ a r r' b, J r r' → r.1 = .inr a → r'.1 = .inl b → ∀ n p pl, J r (mt τ E' n p pl r'.2)) ∧
  (∀ x x' v pl, I x x' → I (bindX x v pl) (bindX x' v pl)) ∧
  (∀ v pl x x', I x x' → V (E.2.1 v pl x).2 →
    ((E.2.1 v pl x).1 = -9 → ((E'.2.1 v pl x').1 = -9 → J (.inr (4, pl, v), (E.2.1 v pl x).2) (.inr (4, pl, v), (E'.2.1 v pl x').2)) ∧ (¬ (E'.2.1 v pl x').1 = -9 → J (.inr (4, pl, v), (E.2.1 v pl x).2) (.inl true, (E'.2.1 v pl x').2))) ∧
    (¬ (E.2.1 v pl x).1 = -9 → (E'.2.1 v pl x').1 = (E.2.1 v pl x).1 ∧ I (E.2.1 v pl x).2 (E'.2.1 v pl x').2)) ∧
  (∀ pl k x x', I x x' →
    (factE E pl = -9 → (factE E' pl = -9 → J (.inr (3, pl, k), x) (.inr (3, pl, k), x')) ∧ (¬ factE E' pl = -9 → ∀ b, J (.inr (3, pl, k), x) (.inl b, E'.2.2 x'))) ∧
    (¬ factE E pl = -9 → factE E' pl = factE E pl ∧ I (E.2.2 x) (E'.2.2 x'))) ∧
  (∀ n p pl x, V (mt τ E n p pl x).2 → V x) ∧ (∀ v pl x, V (E.2.1 v pl x).2 → V x) ∧ (∀ x, V (E.2.2 x) → V x)
theorem seq_cont (h : SimH τ E E' I J V) {n : Nat} {a : Int × Int × Int} {r : Res} (hr : r.1 = .inr a) : ∀ (L : List (Nat × Int)) (x' : XS), J r (.inl true, x') → J r (seqM (mt τ E' n) L x')
  | [], x', hj => hj
  | q :: L, x', hj => by
    have h1 := h.2.2.1 a r (.inl true, x') true hj hr rfl n q.1 q.2
    unfold seqM
    dsimp only at h1
    by_cases c : (mt τ E' n q.1 q.2 x').1 = .inl true
    · rw [if_pos c]
      refine seq_cont h hr L _ ?_
      have e : (mt τ E' n q.1 q.2 x') = (.inl true, (mt τ E' n q.1 q.2 x').2) := by rw [← c]
      rw [e] at h1
      exact h1
    · rw [if_neg c]; exact h1
theorem seq_V (h : SimH τ E E' I J V) {n : Nat} : ∀ (L : List (Nat × Int)) (x : XS), V (seqM (mt τ E n) L x).2 → V x
  | [], x, hv => hv
  | q :: L, x, hv => by
    unfold seqM at hv
    by_cases c : (mt τ E n q.1 q.2 x).1 = .inl true
    · rw [if_pos c] at hv
      exact h.2.2.2.2.2.2.1 n q.1 q.2 x (seq_V h L _ hv)
    · rw [if_neg c] at hv
      exact h.2.2.2.2.2.2.1 n q.1 q.2 x hv
theorem seq_rel0 (h : SimH τ E E' I J V) {n : Nat} (ih : ∀ p pl x x', I x x' → V (mt τ E n p pl x).2 → J (mt τ E n p pl x) (mt τ E' n p pl x')) : ∀ (L : List (Nat × Int)) (x x' : XS), I x x' → V (seqM (mt τ E n) L x).2 → J (seqM (mt τ E n) L x) (seqM (mt τ E' n) L x')
  | [], x, x', hi, _ => h.1 true x x' hi
  | q :: L, x, x', hi, hv => by
    unfold seqM at hv ⊢
    rcases res_c (mt τ E n q.1 q.2 x) with hr | hr | ⟨a, hr⟩
    · rw [if_pos hr] at hv ⊢
      have hj := ih q.1 q.2 x x' hi (seq_V h L _ hv)
      obtain ⟨g1, g2⟩ := h.2.1 true _ _ hj hr
      rw [if_pos g1]
      exact seq_rel0 h ih L _ _ g2 hv
    · have hn : ¬ (mt τ E n q.1 q.2 x).1 = .inl true := by rw [hr]; intro z; cases z
      rw [if_neg hn] at hv ⊢
      have hj := ih q.1 q.2 x x' hi hv
      obtain ⟨g1, g2⟩ := h.2.1 false _ _ hj hr
      rw [if_neg (by rw [g1]; intro z; cases z)]
      exact hj
    · have hn : ¬ (mt τ E n q.1 q.2 x).1 = .inl true := by rw [hr]; intro z; cases z
      rw [if_neg hn] at hv ⊢
      have hj := ih q.1 q.2 x x' hi hv
      by_cases c : (mt τ E' n q.1 q.2 x').1 = .inl true
      · rw [if_pos c]
        refine seq_cont h hr L _ ?_
        have e : (mt τ E' n q.1 q.2 x') = (.inl true, (mt τ E' n q.1 q.2 x').2) := by rw [← c]
        rw [← e]; exact hj
      · rw [if_neg c]; exact hj
theorem mt_rel (h : SimH τ E E' I J V) : ∀ (n p : Nat) (pl : Int) (x x' : XS), I x x' → V (mt τ E n p pl x).2 → J (mt τ E n p pl x) (mt τ E' n p pl x')
  | 0, p, pl, x, x', hi, _ => h.1 false x x' hi
  | n + 1, p, pl, x, x', hi, hv => by
    have ih := mt_rel h n
    show J (mtG τ E (mt τ E n) p pl x) (mtG τ E' (mt τ E' n) p pl x')
    have hv2 : V (mtG τ E (mt τ E n) p pl x).2 := hv
    unfold mtG at hv2 ⊢
    by_cases c0 : τ 8 p = 0
    · rw [if_pos c0, if_pos c0]; exact h.1 true x x' hi
    rw [if_neg c0] at hv2 ⊢
    rw [if_neg c0]
    by_cases c1 : τ 8 p = 1
    · rw [if_pos c1] at hv2 ⊢
      rw [if_pos c1]
      exact ih _ _ _ _ (h.2.2.2.1 _ _ _ _ hi) hv2
    rw [if_neg c1] at hv2 ⊢
    rw [if_neg c1]
    by_cases c4 : τ 8 p = 4
    · rw [if_pos c4] at hv2 ⊢
      rw [if_pos c4]
      rcases res_c (mt τ E n (prt τ p 0).toNat pl x) with hr | hr | ⟨a, hr⟩
      · have hn : ¬ (mt τ E n (prt τ p 0).toNat pl x).1 = .inl false := by rw [hr]; intro z; cases z
        rw [if_neg hn] at hv2 ⊢
        have hj := ih (prt τ p 0).toNat pl x x' hi hv2
        obtain ⟨g1, g2⟩ := h.2.1 true _ _ hj hr
        rw [if_neg (by rw [g1]; intro z; cases z)]
        exact hj
      · rw [if_pos hr] at hv2 ⊢
        have hj := ih (prt τ p 0).toNat pl x x' hi (h.2.2.2.2.2.2.1 _ _ _ _ hv2)
        obtain ⟨g1, g2⟩ := h.2.1 false _ _ hj hr
        rw [if_pos g1]
        exact ih _ _ _ _ g2 hv2
      · have hn : ¬ (mt τ E n (prt τ p 0).toNat pl x).1 = .inl false := by rw [hr]; intro z; cases z
        rw [if_neg hn] at hv2 ⊢
        have hj := ih (prt τ p 0).toNat pl x x' hi hv2
        by_cases c : (mt τ E' n (prt τ p 0).toNat pl x').1 = .inl false
        · rw [if_pos c]
          exact h.2.2.1 a _ _ false hj hr c n _ _
        · rw [if_neg c]; exact hj
    rw [if_neg c4] at hv2 ⊢
    rw [if_neg c4]
    by_cases c5 : τ 8 p = 5
    · rw [if_pos c5] at hv2 ⊢
      rw [if_pos c5]
      by_cases g : (E.2.1 (τ 9 p) pl x).1 = -9
      · rw [if_pos g] at hv2 ⊢
        obtain ⟨w1, -⟩ := h.2.2.2.2.1 (τ 9 p) pl x x' hi hv2
        obtain ⟨w2, w3⟩ := w1 g
        by_cases g' : (E'.2.1 (τ 9 p) pl x').1 = -9
        · rw [if_pos g']; exact w2 g'
        · rw [if_neg g']
          exact h.2.2.1 (4, pl, τ 9 p) (.inr (4, pl, τ 9 p), (E.2.1 (τ 9 p) pl x).2) _ true (w3 g') rfl rfl n _ _
      · rw [if_neg g] at hv2 ⊢
        obtain ⟨-, w1⟩ := h.2.2.2.2.1 (τ 9 p) pl x x' hi (h.2.2.2.2.2.2.1 _ _ _ _ hv2)
        obtain ⟨w2, w3⟩ := w1 g
        have g' : ¬ (E'.2.1 (τ 9 p) pl x').1 = -9 := by rw [w2]; exact g
        rw [if_neg g', w2]
        exact ih _ _ _ _ w3 hv2
    rw [if_neg c5] at hv2 ⊢
    rw [if_neg c5]
    obtain ⟨w1, w2⟩ := h.2.2.2.2.2.1 pl (τ 12 p) x x' hi
    by_cases g : factE E pl = -9
    · rw [if_pos g] at hv2 ⊢
      obtain ⟨w3, w4⟩ := w1 g
      by_cases g' : factE E' pl = -9
      · rw [if_pos g']; exact w3 g'
      · rw [if_neg g']
        by_cases hR : isR τ p (factE E' pl) = true
        · rw [if_pos hR]; exact seq_cont h rfl _ _ (w4 g' true)
        · rw [if_neg hR]; exact w4 g' false
    · rw [if_neg g] at hv2 ⊢
      obtain ⟨w3, w4⟩ := w2 g
      have g' : ¬ factE E' pl = -9 := by rw [w3]; exact g
      rw [if_neg g', w3]
      by_cases hR : isR τ p (factE E pl) = true
      · rw [if_pos hR] at hv2 ⊢
        rw [if_pos hR]
        exact seq_rel0 h ih _ _ _ w4 hv2
      · rw [if_neg hR] at hv2 ⊢
        rw [if_neg hR]
        exact h.1 false _ _ w4
theorem seq_rel (h : SimH τ E E' I J V) {n : Nat} {L : List (Nat × Int)} {x x' : XS} (hi : I x x') (hv : V (seqM (mt τ E n) L x).2) : J (seqM (mt τ E n) L x) (seqM (mt τ E' n) L x') := seq_rel0 h (mt_rel h n) L x x' hi hv
end SIM
