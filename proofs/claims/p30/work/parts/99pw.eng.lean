/-! the law from its entry -/
theorem og_law_20_3 : oks 12 code 20 [(.bipush 24, 2, (0, 0, 0)), (.aload_n 0, 1, (0, 0, 0)), (.iconst 0, 1, (0, 0, 0))] = true ∧ plen 20 [(.bipush 24, 2, (0, 0, 0)), (.aload_n 0, 1, (0, 0, 0)), (.iconst 0, 1, (0, 0, 0))] = 24 := by decide +kernel
theorem og_law_27_1 : oks 12 code 27 [(.bipush 27, 2, (0, 0, 0))] = true ∧ plen 27 [(.bipush 27, 2, (0, 0, 0))] = 29 := by decide +kernel
theorem og_law_30_6 : oks 12 code 30 [(.iadd, 1, (0, 0, 0)), (.istore 4, 2, (0, 0, 0)), (.iconst 1, 1, (0, 0, 0)), (.istore 5, 2, (0, 0, 0)), (.iconst 0, 1, (0, 0, 0)), (.istore 6, 2, (0, 0, 0))] = true ∧ plen 30 [(.iadd, 1, (0, 0, 0)), (.istore 4, 2, (0, 0, 0)), (.iconst 1, 1, (0, 0, 0)), (.istore 5, 2, (0, 0, 0)), (.iconst 0, 1, (0, 0, 0)), (.istore 6, 2, (0, 0, 0))] = 39 := by decide +kernel
theorem dg_law_346 : decode code 346 = .ok (.ireturn, 1) := by decide +kernel
section LS2
variable {p : Program} {l : Launch} {e : Env} {s : State} {m : MethodId} {below : List Frame} {meth : Method} {c : Code} {Q : State → Prop} {b L9 : Nat} {xs : Nat → Int32}
set_option maxHeartbeats 4000000 in
theorem law_init {args : Array Value} {D : va_G} {cI cZ : ClassId} {ax ay : List Nat} {an : Nat} {Inv : Sg → Sg → Sg → Prop} (HL : LawH l Inv) (hl : l.stackTraces = false) (hL9 : L9 ≤ 3000) {σ1 σ2 ν : Sg} (hax : ax[0]? = some (ax.getD 0 0)) (hay : ay[0]? = some (ay.getD 0 0)) (hI : Inv σ1 σ2 ν)
    (kx : ∀ (kc2 : Nat) (L : List (Option AV)) (p1 p2 ν' : Sg), kc2 ≤ 600086 → GM p l e s m args below meth c D cI cZ Q b L9 xs ax ay an kc2 346 L [.inl 1] [p1, p2, ν']) : GM p l e s m args below meth c D cI cZ Q b L9 xs ax ay an 200 20 [some (.inr 0), some (.inr 1), some (.inr 2), some (.inr 3), none, none, none, none, none] [] [σ1, σ2, ν] := by
  have hq := jrx (drawn_rng xs L9 0).1 27 (by decide)
  have hth : wrap (24 + (jrem (drawnF xs L9 0) 27)) = 24 + jrem (drawnF xs L9 0) 27 := wrap_s (by omega) (by omega)
  refine gm_ops (S := ([], ν)) (S' := ([], ν)) og_law_20_3 (by decide) (L' := [some (.inr 0), some (.inr 1), some (.inr 2), some (.inr 3), none, none, none, none, none]) (st' := [.inl 0, .inr 0, .inl 24]) rfl ?_
  refine gm_drawn (by decide) hL9 (by omega) dg_law_24 (Nat.le_of_ble_eq_true rfl) ?_
  refine gm_ops (S := ([], ν)) (S' := ([], ν)) og_law_27_1 (by decide) (L' := [some (.inr 0), some (.inr 1), some (.inr 2), some (.inr 3), none, none, none, none, none]) (st' := [.inl 27, .inl (drawnF xs L9 0), .inl 24]) rfl ?_
  refine gm_rem dg_law_29 (by decide) ?_
  refine gm_ops (S := ([], ν)) (S' := ([], ν)) og_law_30_6 (by decide) (L' := [some (.inr 0), some (.inr 1), some (.inr 2), some (.inr 3), some (.inl (wrap (24 + (jrem (drawnF xs L9 0) 27)))), some (.inl 1), some (.inl 0), none, none]) (st' := []) rfl ?_
  exact law_loop HL hl hL9 hax hay _ (by omega) 60 200 0 σ1 σ2 ν (by omega) (by omega) (by omega) hI (fun kc2 j p1 p2 ν2 g1 g2 g3 => law_end HL hl hL9 (by omega) hax hay g2 g3 kx)
theorem inv_0 : Inv2 sI sI (fun _ _ => 0) := ⟨tI, rel_0, rel_0, by decide +kernel, by decide +kernel, by decide +kernel, by decide +kernel⟩
set_option maxHeartbeats 1000000 in
theorem law_walk (l : Launch) (hl : l.stackTraces = false) (hL : L9 ≤ 3000) (hx : p.tables.exec = Jvm.exec) (hb : c.code = code) (hml : c.maxLocals = 9) (hown : s.vm.findClass "PatternforgeLaw" = some m.cls) (hts : ∀ w ∈ lw_tbl, w.before #[Value.ref b] s = true) (hX : va_X b L9 xs s s.heap) (hbl : b < s.heap.size) (hlocks : meth.locks = false) (hgv : (Jvm.Cond.and given_1 narrow_1).before #[Value.ref b] s = true)
    (kx : ∀ (H : Heap) (ls : Array Slot), W p l e room_1 s m #[Value.ref b] below meth c H [] 600086 7301442 Q (F0 m 346 ls [.int 1])) :
    W p l e room_1 s m #[Value.ref b] below meth c s.heap [] 0 0 Q (entryFrame m ([Value.ref b] : List Value).toArray 9) := by
  obtain ⟨D, cI, cZ, hK⟩ := kn_start hts
  have hN : NX s := nx_start hgv
  have hT : TH (AL s) s s.heap := th_start hts hgv (fun a h => Nat.not_le.mpr h)
  have hC : Cx 12 code 9 false p s m #[Value.ref b] meth c (AL s) D cI cZ := ⟨hx, hb, hml, hown, fun w hw => hts w (List.mem_filter.mp hw).1, hlocks, (fun h => by cases h), hK, fun q h => h⟩
  have body : Rg p l e room_1 s m #[Value.ref b] below meth c (PwS D s [] [b]) 0 0 Q 9 0 [some (.inr 0), none, none, none, none, none, none, none, none] [] := by
    refine rl_new (ci := 10) (idx := 8) hC dg_law_0 (by decide) (by decide) (by decide) (by decide) (fun a => ?_)
    refine rg_dup ⟨hx, hb⟩ dg_law_3 ?_
    refine rl_init (M1 := m_X10_init) (lay := [(10, sl0 10)]) (lay' := LAYC) (r := 1) (a := a) (idx := 171) (d1 := 400) (σ' := I_X10_init_0 (fun _ _ => 0)) hC (by decide) (by decide) dg_law_4 ln_12_171 im_X10_init rfl mk_X10_init (Nat.le_of_ble_eq_true rfl) rfl rfl (ci_X10_init_0 l 400 (by omega) _ _ rfl) (Nat.le_of_ble_eq_true rfl) (Nat.le_of_ble_eq_true rfl) (Nat.le_of_ble_eq_true rfl) (Nat.le_of_ble_eq_true rfl) (fun ax hlx hax hrx => ?_)
    subst hax
    refine rg_astore_n ⟨hx, hb⟩ dg_law_7 (Nat.le_of_ble_eq_true rfl) ?_
    refine rl_new (ci := 10) (idx := 8) hC dg_law_8 (by decide) (by decide) (Nat.le_of_ble_eq_true rfl) (Nat.le_of_ble_eq_true rfl) (fun a => ?_)
    refine rg_dup ⟨hx, hb⟩ dg_law_11 ?_
    refine rl_init (M1 := m_X10_init) (lay := [(10, sl0 10)]) (lay' := LAYC) (r := 2) (a := a) (idx := 171) (d1 := 400) (σ' := I_X10_init_0 (fun _ _ => 0)) hC (by decide) (by decide) dg_law_12 ln_12_171 im_X10_init rfl mk_X10_init (Nat.le_of_ble_eq_true rfl) rfl rfl (ci_X10_init_0 l 400 (by omega) _ _ rfl) (Nat.le_of_ble_eq_true rfl) (Nat.le_of_ble_eq_true rfl) (Nat.le_of_ble_eq_true rfl) (Nat.le_of_ble_eq_true rfl) (fun ay hly hay hry => ?_)
    subst hay
    refine rg_astore_n ⟨hx, hb⟩ dg_law_15 (Nat.le_of_ble_eq_true rfl) ?_
    refine rg_iconst ⟨hx, hb⟩ dg_law_16 ⟨by decide, by decide⟩ ?_
    refine rl_row hC dg_law_17 (Nat.le_of_ble_eq_true rfl) (Nat.le_of_ble_eq_true rfl) (fun an => ?_)
    refine rg_astore_n ⟨hx, hb⟩ dg_law_19 (Nat.le_of_ble_eq_true rfl) ?_
    refine rl_conv (b := b) (an := an) (ν := fun _ _ => 0) hlx hly rfl hrx hry (fun _ _ => ⟨by decide, by decide⟩) (fun hF hFA => ?_)
    refine rl_more (kc' := 200) (ks' := 6 * 200 + 100000) (by decide +kernel) (by decide +kernel) ?_
    have hl9 : LAYC.length = 55 := rfl
    have g0 : ∀ {zs : List Nat}, zs.length = LAYC.length → zs[0]? = some (zs.getD 0 0) := fun {zs} hz => by
      match zs, hz with
      | [], hz => exact absurd hz (by decide)
      | z :: zs, hz => rfl
    refine law_init (law_h hl) hl hL (g0 hlx) (g0 hly) inv_0 (fun kc2 L p1 p2 ν' hk => ?_) hC hN hT hF hFA hX hbl
    intro _ _ _ _ _ _ _ ads H locs ls cst hW hL1 hv
    match cst, hv with
    | [cv], hv =>
      obtain ⟨hr, rfl⟩ := vr_int hv.1
      refine W.widen (k := 600086) (n := 7301442) hk (by omega) ?_
      refine va_forget (fun q hq => hW.2.2.1.2.2 q hq) ?_
      exact kx H ls
    | _ :: _ :: _, hv => exact hv.2.elim
  have hw := body [b] s.heap [] _ [] ⟨rfl, (fun k q h => by simp at h), ⟨fun i j p q h => by simp at h, fun k q h => by simp at h⟩, va_S.rf⟩ (ent_lrs (ads := [b]) (as := [.inr 0]) (cvs := [.ref b]) (nL := 9) ⟨⟨b, rfl, rfl⟩, trivial⟩ (Nat.le_of_ble_eq_true rfl)) trivial
  rw [lg_entry_eq]
  exact hw
end LS2
