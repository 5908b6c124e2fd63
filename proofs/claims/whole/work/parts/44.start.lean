/-! what stands at the law's entry: the classes, the array classes, the links, the exceptions' texts -/
theorem zip_in {α : Type} {f : α → Cond} {rs : List α} {ps : List Nat} (hl : rs.length = ps.length) (h : (rs.zip ps).all (fun q => decide (tables_1[q.2]? = some (f q.1))) = true) : ∀ r ∈ rs, f r ∈ lw_tbl := by
  intro r hr
  obtain ⟨i, hi⟩ := List.getElem?_of_mem hr
  have hil : i < rs.length := (List.getElem?_eq_some_iff.mp hi).1
  have hz : (rs.zip ps)[i]? = some (r, ps[i]'(by omega)) := by
    rw [List.getElem?_zip_eq_some]
    exact ⟨hi, List.getElem?_eq_getElem (by omega)⟩
  have h1 := List.all_eq_true.mp h _ (List.mem_of_getElem? hz)
  exact List.mem_append_right _ (List.mem_of_getElem? (of_decide_eq_true h1))
theorem tb_in {w : Cond} (i : Nat) (h : tables_1[i]? = some w) : w ∈ lw_tbl := List.mem_append_right _ (List.mem_of_getElem? h)
theorem nl_in : ∀ q ∈ NL, Cond.methodLinkNest q.1 q.2.1 q.2.2.1 q.2.2.2 ∈ lw_tbl := zip_in (f := fun q : String × Nat × MethodName × String => Cond.methodLinkNest q.1 q.2.1 q.2.2.1 q.2.2.2) (ps := [32, 56, 77, 124, 131, 394, 499, 538, 539, 558, 567, 578, 609, 642, 643, 648, 680, 693, 716, 809, 829, 830, 846, 868, 957, 958, 996, 998, 1014, 1025, 1095, 1108, 1136, 1137, 1150, 1173, 1177, 1210, 1228, 1254, 1259, 1290]) (by decide +kernel) (by decide +kernel)
theorem ca_in (E : Nat) : Cond.castable (exN E) (exN E) ∈ lw_tbl := by
  unfold exN
  split
  · exact tb_in 402 (by decide +kernel)
  · split
    · exact tb_in 474 (by decide +kernel)
    · exact tb_in 507 (by decide +kernel)
theorem dl_in : ∀ Y ∈ DL, Cond.declares (Bundle.initS Y) ∈ lw_tbl := zip_in (f := fun Y : String => Cond.declares (Bundle.initS Y)) (ps := [404, 406, 408]) (by decide +kernel) (by decide +kernel)
theorem nw_start {s : State} {A : Array Value} (hts : ∀ w ∈ lw_tbl, w.before A s = true) : NW s :=
  ⟨fun q hq => va_Nw.of rfl (hts _ (nl_in q hq)), fun E => va_Nw.of rfl (hts _ (ca_in E)), fun Y hY => va_Nw.of rfl (hts _ (dl_in Y hY))⟩
theorem nx_start {s : State} {A : Array Value} (hg : (Jvm.Cond.and given_1 narrow_1).before A s = true) : NX s := by
  have hs := flat_of_before _ hg
  intro E F h1 h2 h3
  match E, F, h1, h2, h3 with
  | 0, 0, _, _, h3 => exact absurd rfl h3
  | 1, 1, _, _, h3 => exact absurd rfl h3
  | 2, 2, _, _, h3 => exact absurd rfl h3
  | 0, 1, _, _, _ => exact va_Nc.of (hs _ (by decide +kernel))
  | 0, 2, _, _, _ => exact va_Nc.of (hs _ (by decide +kernel))
  | 1, 0, _, _, _ => exact va_Nc.of (hs _ (by decide +kernel))
  | 1, 2, _, _, _ => exact va_Nc.of (hs _ (by decide +kernel))
  | 2, 0, _, _, _ => exact va_Nc.of (hs _ (by decide +kernel))
  | 2, 1, _, _, _ => exact va_Nc.of (hs _ (by decide +kernel))
  | (_ + 3), _, h1, _, _ => omega
  | 0, (_ + 3), _, h2, _ => omega
  | 1, (_ + 3), _, h2, _ => omega
  | 2, (_ + 3), _, h2, _ => omega
theorem str_start {s : State} {A : Array Value} {k : Nat} {tx : String} (h1 : (Cond.stringRef "Patternforge" k tx).before A s = true) (h2 : (Cond.exactly (.string "Patternforge" k) "java/lang/String").before A s = true) : ∃ a, vk_R "Patternforge" k tx a s := by
  obtain ⟨a, c, cA, kA, q1, q2, q3, q4, q5, q6, -⟩ := Cond.exactly_spec (args := A) (first := s) (o := none) (s := s) (idx := []) (t := .string "Patternforge" k) (cls := "java/lang/String") h2
  exact ⟨a, vk_R.of h1 q1⟩
theorem th_start {s : State} {A : Array Value} {B : Nat → Prop} (hts : ∀ w ∈ lw_tbl, w.before A s = true) (hg : (Jvm.Cond.and given_1 narrow_1).before A s = true) (hA : ∀ a : Nat, a < s.heap.size → ¬ B a) : TH B s s.heap := by
  have hs := flat_of_before _ hg
  exact ⟨vx_Zqof (hts _ (tb_in 427 (by decide +kernel))) (hts _ (tb_in 14 (by decide +kernel))) (hs _ (by decide +kernel)) hA,
    vx_Zqof (hts _ (tb_in 429 (by decide +kernel))) (hts _ (tb_in 14 (by decide +kernel))) (hs _ (by decide +kernel)) hA,
    str_start (hts _ (tb_in 441 (by decide +kernel))) (hs _ (by decide +kernel)),
    str_start (hts _ (tb_in 481 (by decide +kernel))) (hs _ (by decide +kernel)),
    str_start (hts _ (tb_in 514 (by decide +kernel))) (hs _ (by decide +kernel))⟩
theorem arr_start {s : State} {A : Array Value} {ty : FieldType} (hp : ∀ C, ty ≠ .object C) (h : (Cond.arrayClass ty).before A s = true) : ∃ cA : ClassId, ArrOfT s cA ty ∧ va_RA s cA ty := by
  obtain ⟨c, k, comp, h1, h2, h3⟩ := Cond.arrayClass_spec h
  refine ⟨c, fun n z => ⟨fun k h => (by cases h), k, h2, comp, h3⟩, ?_⟩
  cases ty <;> first | exact h1 | exact absurd rfl (hp _)
theorem cls_start {s : State} {A : Array Value} (hts : ∀ w ∈ lw_tbl, w.before A s = true) : ∃ D : va_G, ∀ (c : Nat) (q : vw_C), vwCl[c]? = some q → u_Kn s q.1 q.2.1 q.2.2 (D.1 c) (D.2 c) := by
  have htb : ∀ w ∈ TB, w.before A s = true := fun w hw => hts w (List.mem_filter.mp hw).1
  have hex : ∀ c : Nat, ∃ g : ClassId × (Nat → Nat), ∀ q : vw_C, vwCl[c]? = some q → u_Kn s q.1 q.2.1 q.2.2 g.1 g.2 := by
    intro c
    cases hc : vwCl[c]? with
    | none => exact ⟨(0, fun _ => 0), fun q h => by cases h⟩
    | some q =>
      have hok := cls_ok c q hc
      have hc12 : c < 12 := (List.getElem?_eq_some_iff.mp hc).1
      have hin : ∃ r ∈ nlk, r.2.2 = c := by
        have : ∀ c : Nat, c < 12 → ∃ r ∈ nlk, r.2.2 = c := by decide
        exact this c hc12
      obtain ⟨r, hr, hrc⟩ := hin
      have hi := htb _ (nlk_ok2 r hr)
      rw [hrc, ← hok.1] at hi
      obtain ⟨cC, iS, hk⟩ := u_known (C := q.1) (T := q.2.1) (N := q.2.2) htb hok.2.1 hi
      exact ⟨(cC, iS), fun q' h => by cases h; exact hk⟩
  obtain ⟨g, hg⟩ := Classical.skolem.mp hex
  exact ⟨(fun c => (g c).1, fun c => (g c).2), fun c q hq => hg c q hq⟩
theorem ko_start {s : State} {A : Array Value} (hts : ∀ w ∈ lw_tbl, w.before A s = true) (hg : (Jvm.Cond.and given_1 narrow_1).before A s = true) : ∃ (D : va_G) (cI cZ cJ : ClassId), KO D cI cZ cJ s := by
  obtain ⟨D, hD⟩ := cls_start hts
  obtain ⟨cI, hI⟩ := arr_start (ty := .int) (fun _ h => by cases h) (hts _ (tb_in 46 (by decide +kernel)))
  obtain ⟨cZ, hZ⟩ := arr_start (ty := .boolean) (fun _ h => by cases h) (hts _ (tb_in 1595 (by decide +kernel)))
  obtain ⟨cJ, hJ⟩ := arr_start (ty := .long) (fun _ h => by cases h) (hts _ (tb_in 1906 (by decide +kernel)))
  refine ⟨D, cI, cZ, cJ, ⟨hD, fun k q hk => ?_⟩, nw_start hts, nx_start hg⟩
  match k, hk with
  | 0, hk => cases hk; exact hI
  | 1, hk => cases hk; exact hZ
  | 2, hk => cases hk; exact hJ
  | _ + 3, hk => cases hk
