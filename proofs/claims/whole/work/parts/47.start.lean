/-! the law from its entry: what is made first, then its loop -/
section LS
variable {p : Program} {l : Launch} {e : Env} {R : Room} {s : State} {m : MethodId} {args : Array Value} {below : List Frame} {meth : Method} {c : Code} {D : va_G} {cI cZ cJ : ClassId} {Q : State → Prop}
variable {ax am : List Nat} {ao b : Nat} {kc ks pc : Nat} {L : List (Option AV)} {st : List AV} {σ τ : Sg} {ov : Int}
theorem va_D_mid {A : Nat → Prop} {ws1 ws2 ws3 : va_W} (h : va_D A ((ws1 ++ ws2) ++ ws3)) : va_D A ((ws1 ++ ws3) ++ ws2) := by
  obtain ⟨h12, h3, h4⟩ := va_D_app.mp h
  obtain ⟨h1, h2, h5⟩ := va_D_app.mp h12
  refine va_D_app.mpr ⟨va_D_app.mpr ⟨h1, h3, fun i j p q hi hj => h4 i j p q (at_left hi) hj⟩, h2, fun i j p q hi hj hpq => ?_⟩
  rcases at_app hi with ⟨k, hk⟩ | ⟨k, hk⟩
  · exact h5 k j p q hk hj hpq
  · exact h4 _ k q p (at_right (xs := ws1) hj) hk hpq.symm
theorem va_P_mid {ws1 ws2 ws3 : va_W} {H : Heap} (h : va_P D vwCl ((ws1 ++ ws2) ++ ws3) H) : va_P D vwCl ((ws1 ++ ws3) ++ ws2) H := by
  obtain ⟨h1, h3⟩ := va_P_app.mp h
  obtain ⟨h1, h2⟩ := va_P_app.mp h1
  exact va_P_app.mpr ⟨va_P_app.mpr ⟨h1, h3⟩, h2⟩
def W3 (cI cZ cJ : ClassId) (ax am : List Nat) (ao : Nat) (σ τ : Sg) : va_W := List.append (List.append (List.append [] (mkW ax cI cZ LAYC σ)) (mkW am cI cZ LAYM τ)) [(ao, OUTE cJ 0)]
theorem rl_conv {rs : List Nat} {cc : ByteArray} {nL : Nat} (hlx : ax.length = 55) (hlm : am.length = 51) (hrs : rs = [b, ax.getD 0 0, am.getD 0 0, ao]) (h1 : inRs σ) (h2 : inRs τ) (kk : Rg p l e R s m args below meth c (PwL D cI cZ cJ s ax am ao b σ τ 0) kc ks Q nL pc L st) : Rg p l e R s m args below meth c (PwN D s (W3 cI cZ cJ ax am ao σ τ) rs) kc ks Q nL pc L st := by
  intro ads H locs ls cst hW hL hv
  subst hrs
  obtain ⟨g1, g2, g3, g4⟩ := hW
  exact kk ads H locs ls cst ⟨⟨g1, va_P_mid (ws1 := mkW ax cI cZ LAYC σ) (ws2 := mkW am cI cZ LAYM τ) (ws3 := [(ao, OUTE cJ 0)]) g2, va_D_mid (ws1 := mkW ax cI cZ LAYC σ) (ws2 := mkW am cI cZ LAYM τ) (ws3 := [(ao, OUTE cJ 0)]) g3, g4⟩, hlx, hlm, h1, h2⟩ hL hv
end LS
/-- the law's walk, for any relation that holds at first and that the operations keep -/
theorem law_walk (Rel : Sg → Sg → Prop) (h0 : Rel (I_X10_init_0 (fun _ _ => 0)) (I_X11_init_0 (fun _ _ => 0))) (hops : AllOps Rel) {p : Program} {e : Env} {s : State} {m : MethodId} {below : List Frame} {meth : Method} {c : Code} (l : Launch) (hl : l.stackTraces = false) {b L : Nat} {xs : Nat → Int32} (hL : L ≤ 3072) {Q : State → Prop}
    (hx : p.tables.exec = Jvm.exec) (hb : c.code = code) (hml : c.maxLocals = 7) (hown : s.vm.findClass "PatternforgeLaw" = some m.cls) (hts : ∀ w ∈ lw_tbl, w.before #[Value.ref b] s = true) (hX : va_X b L xs s s.heap) (hbl : b < s.heap.size) (hlocks : meth.locks = false) (hgv : (Jvm.Cond.and given_1 narrow_1).before #[Value.ref b] s = true)
    (kx : ∀ (H : Heap) (ls : Array Slot), W p l e room_1 s m #[Value.ref b] below meth c H [] 601024 7293034 Q (F0 m 2088 ls [.int 1])) :
    W p l e room_1 s m #[Value.ref b] below meth c s.heap [] 0 0 Q (entryFrame m ([Value.ref b] : List Value).toArray 7) := by
  obtain ⟨D, cI, cZ, cJ, hK⟩ := ko_start hts hgv
  have hT : TH (AL s) s s.heap := th_start hts hgv (fun a h => Nat.not_le.mpr h)
  have hC : Cx 12 code 7 false p s m #[Value.ref b] meth c (AL s) D cI cZ := ⟨hx, hb, hml, hown, fun w hw => hts w (List.mem_filter.mp hw).1, hlocks, (fun h => by cases h), hK.kn, fun q h => h⟩
  have body : Rg p l e room_1 s m #[Value.ref b] below meth c (PwN D s [] [b]) 0 0 Q 7 0 [some (.inr 0), none, none, none, none, none, none] [] := by
    refine rl_new (ci := 10) (idx := 8) hC dl_0 (by decide) (by decide) (by decide) (by decide) (fun a => ?_)
    refine rg_dup ⟨hx, hb⟩ dl_3 ?_
    refine rl_init (M1 := m_X10_init) (lay := [(10, sl0 10)]) (lay' := LAYC) (r := 1) (a := a) (idx := 97) (d1 := 400) (σ' := I_X10_init_0 (fun _ _ => 0)) hC (by decide) (by decide) dl_4 ln_12_97 im_X10_init rfl mk_X10_init (Nat.le_of_ble_eq_true rfl) rfl rfl (ci_X10_init_0 l 400 (by omega) _ _ rfl) (Nat.le_of_ble_eq_true rfl) (Nat.le_of_ble_eq_true rfl) (Nat.le_of_ble_eq_true rfl) (Nat.le_of_ble_eq_true rfl) (fun ax hlx hax hrx => ?_)
    subst hax
    refine rg_astore_n ⟨hx, hb⟩ dl_7 (Nat.le_of_ble_eq_true rfl) ?_
    refine rl_new (ci := 11) (idx := 98) hC dl_8 (by decide) (by decide) (Nat.le_of_ble_eq_true rfl) (Nat.le_of_ble_eq_true rfl) (fun a => ?_)
    refine rg_dup ⟨hx, hb⟩ dl_11 ?_
    refine rl_init (M1 := m_X11_init) (lay := [(11, sl0 11)]) (lay' := LAYM) (r := 2) (a := a) (idx := 100) (d1 := 400) (σ' := I_X11_init_0 (fun _ _ => 0)) hC (by decide) (by decide) dl_12 ln_12_100 im_X11_init rfl mk_X11_init (Nat.le_of_ble_eq_true rfl) rfl rfl (ci_X11_init_0 l 400 (by omega) _ _ rfl) (Nat.le_of_ble_eq_true rfl) (Nat.le_of_ble_eq_true rfl) (Nat.le_of_ble_eq_true rfl) (Nat.le_of_ble_eq_true rfl) (fun am hlm ham hrm => ?_)
    subst ham
    refine rg_astore_n ⟨hx, hb⟩ dl_15 (Nat.le_of_ble_eq_true rfl) ?_
    refine rg_iconst ⟨hx, hb⟩ dl_16 ⟨by decide, by decide⟩ ?_
    refine rl_out hC hK (tb_at 1906 (by decide +kernel) (by decide +kernel)) dl_17 (Nat.le_of_ble_eq_true rfl) (Nat.le_of_ble_eq_true rfl) (fun ao => ?_)
    refine rg_astore_n ⟨hx, hb⟩ dl_19 (Nat.le_of_ble_eq_true rfl) ?_
    refine rg_iconst ⟨hx, hb⟩ dl_20 in0 ?_
    refine rg_istore ⟨hx, hb⟩ dl_21 (Nat.le_of_ble_eq_true rfl) ?_
    refine rl_conv (cc := code) (b := b) (ao := ao) (hlx.trans lenC) (hlm.trans lenM) rfl hrx hrm ?_
    refine lw_loop Rel hops hC hK hT hl hX hbl hL (Nat.le_of_ble_eq_true rfl) (Nat.le_of_ble_eq_true rfl) (fun σ τ ov i => ?_) 512 0 _ _ 0 _ _ h0 (by decide) (by decide) (by omega) (Nat.le_of_ble_eq_true rfl) (Nat.le_of_ble_eq_true rfl)
    intro ads H locs ls cst hW hL1 hv
    match cst, hv with
    | [], _ =>
      refine lv_iconst hx hb dl_2087 rfl ?_
      refine va_forget (fun q hq => hW.1.2.2.2.2.2 q hq) ?_
      exact kx H ls
  have hw := body [b] s.heap [] _ [] ⟨rfl, (fun k q h => by simp at h), ⟨fun i j p q h => by simp at h, fun k q h => by simp at h⟩, va_S.rf⟩ (ent_lrs (ads := [b]) (as := [.inr 0]) (cvs := [.ref b]) (nL := 7) ⟨⟨b, rfl, rfl⟩, trivial⟩ (Nat.le_of_ble_eq_true rfl)) trivial
  rw [lg_entry_eq]
  exact hw
