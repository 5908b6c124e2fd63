/-! the law's cases and its loop, for any relation that the operations keep -/
def inRs (σ : Sg) : Prop := ∀ k i : Nat, inR (σ k i)
/-- what the class's object told, and what the reference told with the number of its throw -/
def Ag (es : List (Nat × Int)) (x : Int ⊕ Nat) (v t : Int) : Prop := match x with
  | .inl a => t = 0 ∧ v = a
  | .inr E => kE es E = some t ∧ 1 ≤ t ∧ t ≤ 3
def AgB (es : List (Nat × Int)) (x : Bool ⊕ Nat) (v : Bool) (t : Int) : Prop := match x with
  | .inl a => t = 0 ∧ v = a
  | .inr E => kE es E = some t ∧ 1 ≤ t ∧ t ≤ 3
theorem ag_kw {es : List (Nat × Int)} {x : Int ⊕ Nat} {v t ov : Int} (h : Ag es x v t) : ∃ ov', kW es x ov = some (t, ov') ∧ (t = 0 → ov' = v) ∧ inR t := by
  cases x with
  | inl a => obtain ⟨rfl, rfl⟩ := h; exact ⟨v, rfl, fun _ => rfl, in0⟩
  | inr E =>
    obtain ⟨h1, h2, h3⟩ := h
    refine ⟨ov, ?_, fun h => by omega, ⟨by omega, by omega⟩⟩
    show (match kE es E with | none => none | some k => some (k, ov)) = _
    rw [h1]
theorem ag_kwB {es : List (Nat × Int)} {x : Bool ⊕ Nat} {v : Bool} {t ov : Int} (h : AgB es x v t) : ∃ ov', kWB es x ov = some (t, ov') ∧ (t = 0 → ov' = b2i v) ∧ inR t := by
  cases x with
  | inl a => obtain ⟨rfl, rfl⟩ := h; exact ⟨b2i v, rfl, fun _ => rfl, in0⟩
  | inr E =>
    obtain ⟨h1, h2, h3⟩ := h
    refine ⟨ov, ?_, fun h => by omega, ⟨by omega, by omega⟩⟩
    show (match kE es E with | none => none | some k => some (k, ov)) = _
    rw [h1]
def Lw (i : Int) : List (Option AV) := [some (.inr 0), some (.inr 1), some (.inr 2), some (.inr 3), some (.inl i), none, none]
def argOK (cc : ByteArray) (pc j : Nat) : Bool := decide (decode cc pc = .ok (.aload_n 0, 1)) && decide (decode cc (pc + 1) = .ok (.iload 4, 2)) && decide (decode cc (pc + 3) = .ok (.iconst j, 1)) && decide (decode cc (pc + 4) = .ok (.iadd, 1)) && decide (decode cc (pc + 5) = .ok (.iaload, 1))
theorem wrap_add {i : Int} {j L9 : Nat} (h : 0 ≤ i) (h2 : i + 5 < L9) (h3 : L9 ≤ 3072) (hj : j ≤ 5) : wrap (i + j) = i + j := by unfold wrap; omega
section LW
variable {p : Program} {l : Launch} {e : Env} {R : Room} {s : State} {m : MethodId} {args : Array Value} {below : List Frame} {meth : Method} {c : Code} {D : va_G} {cI cZ cJ : ClassId} {Q : State → Prop}
variable {ax am : List Nat} {ao b : Nat} {kc ks pc : Nat} {L : List (Option AV)} {st : List AV} {σ τ : Sg} {ov : Int}
theorem rl_arg {cc : ByteArray} {nL : Nat} {xs : Nat → Int32} {L9 j : Nat} {i : Int} (hC : Cx 12 cc nL false p s m args meth c (AL s) D cI cZ) (hX : va_X b L9 xs s s.heap) (hbl : b < s.heap.size) (hi : 0 ≤ i) (hi5 : i + 5 < L9) (hL9 : L9 ≤ 3072) (hj : j ≤ 5) (h0 : L[0]? = some (some (.inr 0))) (h4 : L[4]? = some (some (.inl i))) (chk : argOK cc pc j = true)
    (kk : Rg p l e R s m args below meth c (PwL D cI cZ cJ s ax am ao b σ τ ov) kc ks Q nL (pc + 6) L (.inl (xs (i + j).toNat).toInt :: st)) : Rg p l e R s m args below meth c (PwL D cI cZ cJ s ax am ao b σ τ ov) kc ks Q nL pc L st := by
  unfold argOK at chk
  simp only [Bool.and_eq_true, decide_eq_true_eq] at chk
  obtain ⟨⟨⟨⟨g0, g1⟩, g3⟩, g4⟩, g5⟩ := chk
  refine rg_aload_n ⟨hC.1, hC.2.1⟩ g0 h0 ?_
  refine rg_iload ⟨hC.1, hC.2.1⟩ g1 h4 ?_
  refine rg_iconst ⟨hC.1, hC.2.1⟩ g3 ⟨by omega, by omega⟩ ?_
  refine rg_iadd ⟨hC.1, hC.2.1⟩ g4 ?_
  rw [wrap_add hi hi5 hL9 hj]
  exact rl_sld hC hX hbl g5 ⟨by omega, by omega⟩ kk
theorem rl_bool {cc : ByteArray} {nL : Nat} {v : Int} {Pw : List Nat → Heap → List Loc → Prop} (hC : Cx 12 cc nL false p s m args meth c (AL s) D cI cZ) (d0 : decode cc pc = .ok (.ifCond .eq 7, 3)) (d1 : decode cc (pc + 3) = .ok (.iconst 1, 1)) (d2 : decode cc (pc + 4) = .ok (.goto 4, 3)) (d3 : decode cc (pc + 7) = .ok (.iconst 0, 1))
    (kk : Rg p l e R s m args below meth c Pw kc ks Q nL (pc + 8) L (.inl (b2i (decide (¬ v = 0))) :: st)) : Rg p l e R s m args below meth c Pw kc ks Q nL pc L (.inl v :: st) := by
  by_cases hv : v = 0
  · rw [show decide (¬ v = 0) = false from decide_eq_false (fun h => h hv)] at kk
    refine rg_if_eq ⟨hC.1, hC.2.1⟩ d0 (tgt := pc + 7) (by push_cast; rfl) (fun _ => ?_) (fun h => absurd hv h)
    exact rg_iconst ⟨hC.1, hC.2.1⟩ d3 in0 kk
  · rw [show decide (¬ v = 0) = true from decide_eq_true hv] at kk
    refine rg_if_eq ⟨hC.1, hC.2.1⟩ d0 (tgt := pc + 7) (by push_cast; rfl) (fun h => absurd h hv) (fun _ => ?_)
    refine rg_iconst ⟨hC.1, hC.2.1⟩ d1 ⟨by decide, by decide⟩ ?_
    exact rg_goto ⟨hC.1, hC.2.1⟩ d2 (tgt := pc + 8) (by push_cast; omega) kk
theorem rl_inR {nL : Nat} (kk : inRs σ → inRs τ → Rg p l e R s m args below meth c (PwL D cI cZ cJ s ax am ao b σ τ ov) kc ks Q nL pc L st) : Rg p l e R s m args below meth c (PwL D cI cZ cJ s ax am ao b σ τ ov) kc ks Q nL pc L st :=
  fun ads H locs ls cst hW hL hv => kk hW.2.2.2.1 hW.2.2.2.2 ads H locs ls cst hW hL hv
theorem rg_weak {nL : Nat} {L' : List (Option AV)} {Pw : List Nat → Heap → List Loc → Prop} (hlen : L'.length ≤ L.length) (h : ∀ (i : Nat) (v : AV), L'[i]? = some (some v) → L[i]? = some (some v)) (kk : Rg p l e R s m args below meth c Pw kc ks Q nL pc L' st) : Rg p l e R s m args below meth c Pw kc ks Q nL pc L st :=
  fun ads H locs ls cst hW hL hv => kk ads H locs ls cst hW ⟨hL.1, Nat.le_trans hlen hL.2.1, hL.2.2.1, fun i v hi => hL.2.2.2 i v (h i v hi)⟩ hv
theorem lw_weak {i : Int} {y z : Option AV} : ∀ (j : Nat) (v : AV), (Lw i)[j]? = some (some v) → [some (.inr 0), some (.inr 1), some (.inr 2), some (.inr 3), some (.inl i), y, z][j]? = some (some v) := by
  intro j v h
  match j, h with
  | 0, h => exact h
  | 1, h => exact h
  | 2, h => exact h
  | 3, h => exact h
  | 4, h => exact h
  | 5, h => cases h
  | 6, h => cases h
  | _ + 7, h => cases h
theorem inL : Cond.initialized "PatternforgeLaw" ∈ TB := tb_at 0 (by decide +kernel) (by decide +kernel)
theorem dl_0 : decode code 0 = .ok (.new 8, 3) := by decide +kernel
theorem dl_3 : decode code 3 = .ok (.dup, 1) := by decide +kernel
theorem dl_4 : decode code 4 = .ok (.invokespecial 97, 3) := by decide +kernel
theorem dl_7 : decode code 7 = .ok (.astore_n 1, 1) := by decide +kernel
theorem dl_8 : decode code 8 = .ok (.new 98, 3) := by decide +kernel
theorem dl_11 : decode code 11 = .ok (.dup, 1) := by decide +kernel
theorem dl_12 : decode code 12 = .ok (.invokespecial 100, 3) := by decide +kernel
theorem dl_15 : decode code 15 = .ok (.astore_n 2, 1) := by decide +kernel
theorem dl_16 : decode code 16 = .ok (.iconst 1, 1) := by decide +kernel
theorem dl_17 : decode code 17 = .ok (.newarray .long, 2) := by decide +kernel
theorem dl_19 : decode code 19 = .ok (.astore_n 3, 1) := by decide +kernel
theorem dl_20 : decode code 20 = .ok (.iconst 0, 1) := by decide +kernel
theorem dl_21 : decode code 21 = .ok (.istore 4, 2) := by decide +kernel
theorem dl_23 : decode code 23 = .ok (.iload 4, 2) := by decide +kernel
theorem dl_25 : decode code 25 = .ok (.aload_n 0, 1) := by decide +kernel
theorem dl_26 : decode code 26 = .ok (.arraylength, 1) := by decide +kernel
theorem dl_27 : decode code 27 = .ok (.bipush 6, 2) := by decide +kernel
theorem dl_29 : decode code 29 = .ok (.isub, 1) := by decide +kernel
theorem dl_30 : decode code 30 = .ok (.if_icmp .gt 2057, 3) := by decide +kernel
theorem dl_33 : decode code 33 = .ok (.aload_n 0, 1) := by decide +kernel
theorem dl_34 : decode code 34 = .ok (.iload 4, 2) := by decide +kernel
theorem dl_36 : decode code 36 = .ok (.iaload, 1) := by decide +kernel
theorem dl_37 : decode code 37 = .ok (.bipush 31, 2) := by decide +kernel
theorem dl_39 : decode code 39 = .ok (.iand, 1) := by decide +kernel
theorem dl_40 : decode code 40 = .ok (.tableswitch 2041 0 26 #[124, 228, 284, 376, 480, 524, 592, 660, 764, 832, 900, 992, 1096, 1188, 1280, 1372, 1440, 1508, 1600, 1613, 1626, 1682, 1738, 1794, 1878, 1922, 1978], 124) := by decide +kernel
theorem dl_164 : decode code 164 = .ok (.aload_n 1, 1) := by decide +kernel
theorem dl_195 : decode code 195 = .ok (.aload_n 3, 1) := by decide +kernel
theorem dl_196 : decode code 196 = .ok (.invokestatic 101, 3) := by decide +kernel
theorem dl_199 : decode code 199 = .ok (.istore 5, 2) := by decide +kernel
theorem dl_201 : decode code 201 = .ok (.aload_n 2, 1) := by decide +kernel
theorem dl_232 : decode code 232 = .ok (.invokevirtual 106, 3) := by decide +kernel
theorem dl_235 : decode code 235 = .ok (.istore 6, 2) := by decide +kernel
theorem dl_237 : decode code 237 = .ok (.aload_n 2, 1) := by decide +kernel
theorem dl_238 : decode code 238 = .ok (.invokevirtual 107, 3) := by decide +kernel
theorem dl_241 : decode code 241 = .ok (.iload 5, 2) := by decide +kernel
theorem dl_243 : decode code 243 = .ok (.if_icmp .eq 5, 3) := by decide +kernel
theorem dl_248 : decode code 248 = .ok (.iload 5, 2) := by decide +kernel
theorem dl_250 : decode code 250 = .ok (.ifCond .ne 15, 3) := by decide +kernel
theorem dl_253 : decode code 253 = .ok (.aload_n 3, 1) := by decide +kernel
theorem dl_254 : decode code 254 = .ok (.iconst 0, 1) := by decide +kernel
theorem dl_255 : decode code 255 = .ok (.laload, 1) := by decide +kernel
theorem dl_256 : decode code 256 = .ok (.iload 6, 2) := by decide +kernel
theorem dl_258 : decode code 258 = .ok (.i2l, 1) := by decide +kernel
theorem dl_259 : decode code 259 = .ok (.lcmp, 1) := by decide +kernel
theorem dl_260 : decode code 260 = .ok (.ifCond .eq 5, 3) := by decide +kernel
theorem dl_265 : decode code 265 = .ok (.goto 1816, 3) := by decide +kernel
theorem dl_268 : decode code 268 = .ok (.aload_n 1, 1) := by decide +kernel
theorem dl_275 : decode code 275 = .ok (.aload_n 3, 1) := by decide +kernel
theorem dl_276 : decode code 276 = .ok (.invokestatic 110, 3) := by decide +kernel
theorem dl_279 : decode code 279 = .ok (.istore 5, 2) := by decide +kernel
theorem dl_281 : decode code 281 = .ok (.aload_n 2, 1) := by decide +kernel
theorem dl_288 : decode code 288 = .ok (.invokevirtual 113, 3) := by decide +kernel
theorem dl_291 : decode code 291 = .ok (.istore 6, 2) := by decide +kernel
theorem dl_293 : decode code 293 = .ok (.aload_n 2, 1) := by decide +kernel
theorem dl_294 : decode code 294 = .ok (.invokevirtual 107, 3) := by decide +kernel
theorem dl_297 : decode code 297 = .ok (.iload 5, 2) := by decide +kernel
theorem dl_299 : decode code 299 = .ok (.if_icmp .eq 5, 3) := by decide +kernel
theorem dl_304 : decode code 304 = .ok (.iload 5, 2) := by decide +kernel
theorem dl_306 : decode code 306 = .ok (.ifCond .ne 15, 3) := by decide +kernel
theorem dl_309 : decode code 309 = .ok (.aload_n 3, 1) := by decide +kernel
theorem dl_310 : decode code 310 = .ok (.iconst 0, 1) := by decide +kernel
theorem dl_311 : decode code 311 = .ok (.laload, 1) := by decide +kernel
theorem dl_312 : decode code 312 = .ok (.iload 6, 2) := by decide +kernel
theorem dl_314 : decode code 314 = .ok (.i2l, 1) := by decide +kernel
theorem dl_315 : decode code 315 = .ok (.lcmp, 1) := by decide +kernel
theorem dl_316 : decode code 316 = .ok (.ifCond .eq 5, 3) := by decide +kernel
theorem dl_321 : decode code 321 = .ok (.goto 1760, 3) := by decide +kernel
theorem dl_324 : decode code 324 = .ok (.aload_n 1, 1) := by decide +kernel
theorem dl_349 : decode code 349 = .ok (.aload_n 3, 1) := by decide +kernel
theorem dl_350 : decode code 350 = .ok (.invokestatic 114, 3) := by decide +kernel
theorem dl_353 : decode code 353 = .ok (.istore 5, 2) := by decide +kernel
theorem dl_355 : decode code 355 = .ok (.aload_n 2, 1) := by decide +kernel
theorem dl_380 : decode code 380 = .ok (.invokevirtual 117, 3) := by decide +kernel
theorem dl_383 : decode code 383 = .ok (.istore 6, 2) := by decide +kernel
theorem dl_385 : decode code 385 = .ok (.aload_n 2, 1) := by decide +kernel
theorem dl_386 : decode code 386 = .ok (.invokevirtual 107, 3) := by decide +kernel
theorem dl_389 : decode code 389 = .ok (.iload 5, 2) := by decide +kernel
theorem dl_391 : decode code 391 = .ok (.if_icmp .eq 5, 3) := by decide +kernel
theorem dl_396 : decode code 396 = .ok (.iload 5, 2) := by decide +kernel
theorem dl_398 : decode code 398 = .ok (.ifCond .ne 15, 3) := by decide +kernel
theorem dl_401 : decode code 401 = .ok (.aload_n 3, 1) := by decide +kernel
theorem dl_402 : decode code 402 = .ok (.iconst 0, 1) := by decide +kernel
theorem dl_403 : decode code 403 = .ok (.laload, 1) := by decide +kernel
theorem dl_404 : decode code 404 = .ok (.iload 6, 2) := by decide +kernel
theorem dl_406 : decode code 406 = .ok (.i2l, 1) := by decide +kernel
theorem dl_407 : decode code 407 = .ok (.lcmp, 1) := by decide +kernel
theorem dl_408 : decode code 408 = .ok (.ifCond .eq 5, 3) := by decide +kernel
theorem dl_413 : decode code 413 = .ok (.goto 1668, 3) := by decide +kernel
theorem dl_416 : decode code 416 = .ok (.aload_n 1, 1) := by decide +kernel
theorem dl_447 : decode code 447 = .ok (.aload_n 3, 1) := by decide +kernel
theorem dl_448 : decode code 448 = .ok (.invokestatic 118, 3) := by decide +kernel
theorem dl_451 : decode code 451 = .ok (.istore 5, 2) := by decide +kernel
theorem dl_453 : decode code 453 = .ok (.aload_n 2, 1) := by decide +kernel
theorem dl_484 : decode code 484 = .ok (.invokevirtual 120, 3) := by decide +kernel
theorem dl_487 : decode code 487 = .ok (.istore 6, 2) := by decide +kernel
theorem dl_489 : decode code 489 = .ok (.aload_n 2, 1) := by decide +kernel
theorem dl_490 : decode code 490 = .ok (.invokevirtual 107, 3) := by decide +kernel
theorem dl_493 : decode code 493 = .ok (.iload 5, 2) := by decide +kernel
theorem dl_495 : decode code 495 = .ok (.if_icmp .eq 5, 3) := by decide +kernel
theorem dl_500 : decode code 500 = .ok (.iload 5, 2) := by decide +kernel
theorem dl_502 : decode code 502 = .ok (.ifCond .ne 15, 3) := by decide +kernel
theorem dl_505 : decode code 505 = .ok (.aload_n 3, 1) := by decide +kernel
theorem dl_506 : decode code 506 = .ok (.iconst 0, 1) := by decide +kernel
theorem dl_507 : decode code 507 = .ok (.laload, 1) := by decide +kernel
theorem dl_508 : decode code 508 = .ok (.iload 6, 2) := by decide +kernel
theorem dl_510 : decode code 510 = .ok (.i2l, 1) := by decide +kernel
theorem dl_511 : decode code 511 = .ok (.lcmp, 1) := by decide +kernel
theorem dl_512 : decode code 512 = .ok (.ifCond .eq 5, 3) := by decide +kernel
theorem dl_517 : decode code 517 = .ok (.goto 1564, 3) := by decide +kernel
theorem dl_520 : decode code 520 = .ok (.aload_n 1, 1) := by decide +kernel
theorem dl_521 : decode code 521 = .ok (.aload_n 3, 1) := by decide +kernel
theorem dl_522 : decode code 522 = .ok (.invokestatic 121, 3) := by decide +kernel
theorem dl_525 : decode code 525 = .ok (.istore 5, 2) := by decide +kernel
theorem dl_527 : decode code 527 = .ok (.aload_n 2, 1) := by decide +kernel
theorem dl_528 : decode code 528 = .ok (.invokevirtual 124, 3) := by decide +kernel
theorem dl_531 : decode code 531 = .ok (.istore 6, 2) := by decide +kernel
theorem dl_533 : decode code 533 = .ok (.aload_n 2, 1) := by decide +kernel
theorem dl_534 : decode code 534 = .ok (.invokevirtual 107, 3) := by decide +kernel
theorem dl_537 : decode code 537 = .ok (.iload 5, 2) := by decide +kernel
theorem dl_539 : decode code 539 = .ok (.if_icmp .eq 5, 3) := by decide +kernel
theorem dl_544 : decode code 544 = .ok (.iload 5, 2) := by decide +kernel
theorem dl_546 : decode code 546 = .ok (.ifCond .ne 15, 3) := by decide +kernel
theorem dl_549 : decode code 549 = .ok (.aload_n 3, 1) := by decide +kernel
theorem dl_550 : decode code 550 = .ok (.iconst 0, 1) := by decide +kernel
theorem dl_551 : decode code 551 = .ok (.laload, 1) := by decide +kernel
theorem dl_552 : decode code 552 = .ok (.iload 6, 2) := by decide +kernel
theorem dl_554 : decode code 554 = .ok (.i2l, 1) := by decide +kernel
theorem dl_555 : decode code 555 = .ok (.lcmp, 1) := by decide +kernel
theorem dl_556 : decode code 556 = .ok (.ifCond .eq 5, 3) := by decide +kernel
theorem dl_561 : decode code 561 = .ok (.goto 1520, 3) := by decide +kernel
theorem dl_564 : decode code 564 = .ok (.aload_n 1, 1) := by decide +kernel
theorem dl_577 : decode code 577 = .ok (.aload_n 3, 1) := by decide +kernel
theorem dl_578 : decode code 578 = .ok (.invokestatic 125, 3) := by decide +kernel
theorem dl_581 : decode code 581 = .ok (.istore 5, 2) := by decide +kernel
theorem dl_583 : decode code 583 = .ok (.aload_n 2, 1) := by decide +kernel
theorem dl_596 : decode code 596 = .ok (.invokevirtual 128, 3) := by decide +kernel
theorem dl_599 : decode code 599 = .ok (.istore 6, 2) := by decide +kernel
theorem dl_601 : decode code 601 = .ok (.aload_n 2, 1) := by decide +kernel
theorem dl_602 : decode code 602 = .ok (.invokevirtual 107, 3) := by decide +kernel
theorem dl_605 : decode code 605 = .ok (.iload 5, 2) := by decide +kernel
theorem dl_607 : decode code 607 = .ok (.if_icmp .eq 5, 3) := by decide +kernel
theorem dl_612 : decode code 612 = .ok (.iload 5, 2) := by decide +kernel
theorem dl_614 : decode code 614 = .ok (.ifCond .ne 15, 3) := by decide +kernel
theorem dl_617 : decode code 617 = .ok (.aload_n 3, 1) := by decide +kernel
theorem dl_618 : decode code 618 = .ok (.iconst 0, 1) := by decide +kernel
theorem dl_619 : decode code 619 = .ok (.laload, 1) := by decide +kernel
theorem dl_620 : decode code 620 = .ok (.iload 6, 2) := by decide +kernel
theorem dl_622 : decode code 622 = .ok (.i2l, 1) := by decide +kernel
theorem dl_623 : decode code 623 = .ok (.lcmp, 1) := by decide +kernel
theorem dl_624 : decode code 624 = .ok (.ifCond .eq 5, 3) := by decide +kernel
theorem dl_629 : decode code 629 = .ok (.goto 1452, 3) := by decide +kernel
theorem dl_632 : decode code 632 = .ok (.aload_n 1, 1) := by decide +kernel
theorem dl_645 : decode code 645 = .ok (.aload_n 3, 1) := by decide +kernel
theorem dl_646 : decode code 646 = .ok (.invokestatic 129, 3) := by decide +kernel
theorem dl_649 : decode code 649 = .ok (.istore 5, 2) := by decide +kernel
theorem dl_651 : decode code 651 = .ok (.aload_n 2, 1) := by decide +kernel
theorem dl_664 : decode code 664 = .ok (.invokevirtual 131, 3) := by decide +kernel
theorem dl_667 : decode code 667 = .ok (.istore 6, 2) := by decide +kernel
theorem dl_669 : decode code 669 = .ok (.aload_n 2, 1) := by decide +kernel
theorem dl_670 : decode code 670 = .ok (.invokevirtual 107, 3) := by decide +kernel
theorem dl_673 : decode code 673 = .ok (.iload 5, 2) := by decide +kernel
theorem dl_675 : decode code 675 = .ok (.if_icmp .eq 5, 3) := by decide +kernel
theorem dl_680 : decode code 680 = .ok (.iload 5, 2) := by decide +kernel
theorem dl_682 : decode code 682 = .ok (.ifCond .ne 15, 3) := by decide +kernel
theorem dl_685 : decode code 685 = .ok (.aload_n 3, 1) := by decide +kernel
theorem dl_686 : decode code 686 = .ok (.iconst 0, 1) := by decide +kernel
theorem dl_687 : decode code 687 = .ok (.laload, 1) := by decide +kernel
theorem dl_688 : decode code 688 = .ok (.iload 6, 2) := by decide +kernel
theorem dl_690 : decode code 690 = .ok (.i2l, 1) := by decide +kernel
theorem dl_691 : decode code 691 = .ok (.lcmp, 1) := by decide +kernel
theorem dl_692 : decode code 692 = .ok (.ifCond .eq 5, 3) := by decide +kernel
theorem dl_697 : decode code 697 = .ok (.goto 1384, 3) := by decide +kernel
theorem dl_700 : decode code 700 = .ok (.aload_n 1, 1) := by decide +kernel
theorem dl_731 : decode code 731 = .ok (.aload_n 3, 1) := by decide +kernel
theorem dl_732 : decode code 732 = .ok (.invokestatic 132, 3) := by decide +kernel
theorem dl_735 : decode code 735 = .ok (.istore 5, 2) := by decide +kernel
theorem dl_737 : decode code 737 = .ok (.aload_n 2, 1) := by decide +kernel
theorem dl_768 : decode code 768 = .ok (.invokevirtual 134, 3) := by decide +kernel
theorem dl_771 : decode code 771 = .ok (.istore 6, 2) := by decide +kernel
theorem dl_773 : decode code 773 = .ok (.aload_n 2, 1) := by decide +kernel
theorem dl_774 : decode code 774 = .ok (.invokevirtual 107, 3) := by decide +kernel
theorem dl_777 : decode code 777 = .ok (.iload 5, 2) := by decide +kernel
theorem dl_779 : decode code 779 = .ok (.if_icmp .eq 5, 3) := by decide +kernel
theorem dl_784 : decode code 784 = .ok (.iload 5, 2) := by decide +kernel
theorem dl_786 : decode code 786 = .ok (.ifCond .ne 15, 3) := by decide +kernel
theorem dl_789 : decode code 789 = .ok (.aload_n 3, 1) := by decide +kernel
theorem dl_790 : decode code 790 = .ok (.iconst 0, 1) := by decide +kernel
theorem dl_791 : decode code 791 = .ok (.laload, 1) := by decide +kernel
theorem dl_792 : decode code 792 = .ok (.iload 6, 2) := by decide +kernel
theorem dl_794 : decode code 794 = .ok (.i2l, 1) := by decide +kernel
theorem dl_795 : decode code 795 = .ok (.lcmp, 1) := by decide +kernel
theorem dl_796 : decode code 796 = .ok (.ifCond .eq 5, 3) := by decide +kernel
theorem dl_801 : decode code 801 = .ok (.goto 1280, 3) := by decide +kernel
theorem dl_804 : decode code 804 = .ok (.aload_n 1, 1) := by decide +kernel
theorem dl_817 : decode code 817 = .ok (.aload_n 3, 1) := by decide +kernel
theorem dl_818 : decode code 818 = .ok (.invokestatic 135, 3) := by decide +kernel
theorem dl_821 : decode code 821 = .ok (.istore 5, 2) := by decide +kernel
theorem dl_823 : decode code 823 = .ok (.aload_n 2, 1) := by decide +kernel
theorem dl_836 : decode code 836 = .ok (.invokevirtual 137, 3) := by decide +kernel
theorem dl_839 : decode code 839 = .ok (.istore 6, 2) := by decide +kernel
theorem dl_841 : decode code 841 = .ok (.aload_n 2, 1) := by decide +kernel
theorem dl_842 : decode code 842 = .ok (.invokevirtual 107, 3) := by decide +kernel
theorem dl_845 : decode code 845 = .ok (.iload 5, 2) := by decide +kernel
theorem dl_847 : decode code 847 = .ok (.if_icmp .eq 5, 3) := by decide +kernel
theorem dl_852 : decode code 852 = .ok (.iload 5, 2) := by decide +kernel
theorem dl_854 : decode code 854 = .ok (.ifCond .ne 15, 3) := by decide +kernel
theorem dl_857 : decode code 857 = .ok (.aload_n 3, 1) := by decide +kernel
theorem dl_858 : decode code 858 = .ok (.iconst 0, 1) := by decide +kernel
theorem dl_859 : decode code 859 = .ok (.laload, 1) := by decide +kernel
theorem dl_860 : decode code 860 = .ok (.iload 6, 2) := by decide +kernel
theorem dl_862 : decode code 862 = .ok (.i2l, 1) := by decide +kernel
theorem dl_863 : decode code 863 = .ok (.lcmp, 1) := by decide +kernel
theorem dl_864 : decode code 864 = .ok (.ifCond .eq 5, 3) := by decide +kernel
theorem dl_869 : decode code 869 = .ok (.goto 1212, 3) := by decide +kernel
theorem dl_872 : decode code 872 = .ok (.aload_n 1, 1) := by decide +kernel
theorem dl_885 : decode code 885 = .ok (.aload_n 3, 1) := by decide +kernel
theorem dl_886 : decode code 886 = .ok (.invokestatic 138, 3) := by decide +kernel
theorem dl_889 : decode code 889 = .ok (.istore 5, 2) := by decide +kernel
theorem dl_891 : decode code 891 = .ok (.aload_n 2, 1) := by decide +kernel
theorem dl_904 : decode code 904 = .ok (.invokevirtual 140, 3) := by decide +kernel
theorem dl_907 : decode code 907 = .ok (.istore 6, 2) := by decide +kernel
theorem dl_909 : decode code 909 = .ok (.aload_n 2, 1) := by decide +kernel
theorem dl_910 : decode code 910 = .ok (.invokevirtual 107, 3) := by decide +kernel
theorem dl_913 : decode code 913 = .ok (.iload 5, 2) := by decide +kernel
theorem dl_915 : decode code 915 = .ok (.if_icmp .eq 5, 3) := by decide +kernel
theorem dl_920 : decode code 920 = .ok (.iload 5, 2) := by decide +kernel
theorem dl_922 : decode code 922 = .ok (.ifCond .ne 15, 3) := by decide +kernel
theorem dl_925 : decode code 925 = .ok (.aload_n 3, 1) := by decide +kernel
theorem dl_926 : decode code 926 = .ok (.iconst 0, 1) := by decide +kernel
theorem dl_927 : decode code 927 = .ok (.laload, 1) := by decide +kernel
theorem dl_928 : decode code 928 = .ok (.iload 6, 2) := by decide +kernel
theorem dl_930 : decode code 930 = .ok (.i2l, 1) := by decide +kernel
theorem dl_931 : decode code 931 = .ok (.lcmp, 1) := by decide +kernel
theorem dl_932 : decode code 932 = .ok (.ifCond .eq 5, 3) := by decide +kernel
theorem dl_937 : decode code 937 = .ok (.goto 1144, 3) := by decide +kernel
theorem dl_940 : decode code 940 = .ok (.aload_n 1, 1) := by decide +kernel
theorem dl_965 : decode code 965 = .ok (.aload_n 3, 1) := by decide +kernel
theorem dl_966 : decode code 966 = .ok (.invokestatic 141, 3) := by decide +kernel
theorem dl_969 : decode code 969 = .ok (.istore 5, 2) := by decide +kernel
theorem dl_971 : decode code 971 = .ok (.aload_n 2, 1) := by decide +kernel
theorem dl_996 : decode code 996 = .ok (.invokevirtual 143, 3) := by decide +kernel
theorem dl_999 : decode code 999 = .ok (.istore 6, 2) := by decide +kernel
theorem dl_1001 : decode code 1001 = .ok (.aload_n 2, 1) := by decide +kernel
theorem dl_1002 : decode code 1002 = .ok (.invokevirtual 107, 3) := by decide +kernel
theorem dl_1005 : decode code 1005 = .ok (.iload 5, 2) := by decide +kernel
theorem dl_1007 : decode code 1007 = .ok (.if_icmp .eq 5, 3) := by decide +kernel
theorem dl_1012 : decode code 1012 = .ok (.iload 5, 2) := by decide +kernel
theorem dl_1014 : decode code 1014 = .ok (.ifCond .ne 15, 3) := by decide +kernel
theorem dl_1017 : decode code 1017 = .ok (.aload_n 3, 1) := by decide +kernel
theorem dl_1018 : decode code 1018 = .ok (.iconst 0, 1) := by decide +kernel
theorem dl_1019 : decode code 1019 = .ok (.laload, 1) := by decide +kernel
theorem dl_1020 : decode code 1020 = .ok (.iload 6, 2) := by decide +kernel
theorem dl_1022 : decode code 1022 = .ok (.i2l, 1) := by decide +kernel
theorem dl_1023 : decode code 1023 = .ok (.lcmp, 1) := by decide +kernel
theorem dl_1024 : decode code 1024 = .ok (.ifCond .eq 5, 3) := by decide +kernel
theorem dl_1029 : decode code 1029 = .ok (.goto 1052, 3) := by decide +kernel
theorem dl_1032 : decode code 1032 = .ok (.aload_n 1, 1) := by decide +kernel
theorem dl_1063 : decode code 1063 = .ok (.aload_n 3, 1) := by decide +kernel
theorem dl_1064 : decode code 1064 = .ok (.invokestatic 144, 3) := by decide +kernel
theorem dl_1067 : decode code 1067 = .ok (.istore 5, 2) := by decide +kernel
theorem dl_1069 : decode code 1069 = .ok (.aload_n 2, 1) := by decide +kernel
theorem dl_1100 : decode code 1100 = .ok (.invokevirtual 146, 3) := by decide +kernel
theorem dl_1103 : decode code 1103 = .ok (.istore 6, 2) := by decide +kernel
theorem dl_1105 : decode code 1105 = .ok (.aload_n 2, 1) := by decide +kernel
theorem dl_1106 : decode code 1106 = .ok (.invokevirtual 107, 3) := by decide +kernel
theorem dl_1109 : decode code 1109 = .ok (.iload 5, 2) := by decide +kernel
theorem dl_1111 : decode code 1111 = .ok (.if_icmp .eq 5, 3) := by decide +kernel
theorem dl_1116 : decode code 1116 = .ok (.iload 5, 2) := by decide +kernel
theorem dl_1118 : decode code 1118 = .ok (.ifCond .ne 15, 3) := by decide +kernel
theorem dl_1121 : decode code 1121 = .ok (.aload_n 3, 1) := by decide +kernel
theorem dl_1122 : decode code 1122 = .ok (.iconst 0, 1) := by decide +kernel
theorem dl_1123 : decode code 1123 = .ok (.laload, 1) := by decide +kernel
theorem dl_1124 : decode code 1124 = .ok (.iload 6, 2) := by decide +kernel
theorem dl_1126 : decode code 1126 = .ok (.i2l, 1) := by decide +kernel
theorem dl_1127 : decode code 1127 = .ok (.lcmp, 1) := by decide +kernel
theorem dl_1128 : decode code 1128 = .ok (.ifCond .eq 5, 3) := by decide +kernel
theorem dl_1133 : decode code 1133 = .ok (.goto 948, 3) := by decide +kernel
theorem dl_1136 : decode code 1136 = .ok (.aload_n 1, 1) := by decide +kernel
theorem dl_1161 : decode code 1161 = .ok (.aload_n 3, 1) := by decide +kernel
theorem dl_1162 : decode code 1162 = .ok (.invokestatic 147, 3) := by decide +kernel
theorem dl_1165 : decode code 1165 = .ok (.istore 5, 2) := by decide +kernel
theorem dl_1167 : decode code 1167 = .ok (.aload_n 2, 1) := by decide +kernel
theorem dl_1192 : decode code 1192 = .ok (.invokevirtual 149, 3) := by decide +kernel
theorem dl_1195 : decode code 1195 = .ok (.istore 6, 2) := by decide +kernel
theorem dl_1197 : decode code 1197 = .ok (.aload_n 2, 1) := by decide +kernel
theorem dl_1198 : decode code 1198 = .ok (.invokevirtual 107, 3) := by decide +kernel
theorem dl_1201 : decode code 1201 = .ok (.iload 5, 2) := by decide +kernel
theorem dl_1203 : decode code 1203 = .ok (.if_icmp .eq 5, 3) := by decide +kernel
theorem dl_1208 : decode code 1208 = .ok (.iload 5, 2) := by decide +kernel
theorem dl_1210 : decode code 1210 = .ok (.ifCond .ne 15, 3) := by decide +kernel
theorem dl_1213 : decode code 1213 = .ok (.aload_n 3, 1) := by decide +kernel
theorem dl_1214 : decode code 1214 = .ok (.iconst 0, 1) := by decide +kernel
theorem dl_1215 : decode code 1215 = .ok (.laload, 1) := by decide +kernel
theorem dl_1216 : decode code 1216 = .ok (.iload 6, 2) := by decide +kernel
theorem dl_1218 : decode code 1218 = .ok (.i2l, 1) := by decide +kernel
theorem dl_1219 : decode code 1219 = .ok (.lcmp, 1) := by decide +kernel
theorem dl_1220 : decode code 1220 = .ok (.ifCond .eq 5, 3) := by decide +kernel
theorem dl_1225 : decode code 1225 = .ok (.goto 856, 3) := by decide +kernel
theorem dl_1228 : decode code 1228 = .ok (.aload_n 1, 1) := by decide +kernel
theorem dl_1253 : decode code 1253 = .ok (.aload_n 3, 1) := by decide +kernel
theorem dl_1254 : decode code 1254 = .ok (.invokestatic 150, 3) := by decide +kernel
theorem dl_1257 : decode code 1257 = .ok (.istore 5, 2) := by decide +kernel
theorem dl_1259 : decode code 1259 = .ok (.aload_n 2, 1) := by decide +kernel
theorem dl_1284 : decode code 1284 = .ok (.invokevirtual 152, 3) := by decide +kernel
theorem dl_1287 : decode code 1287 = .ok (.istore 6, 2) := by decide +kernel
theorem dl_1289 : decode code 1289 = .ok (.aload_n 2, 1) := by decide +kernel
theorem dl_1290 : decode code 1290 = .ok (.invokevirtual 107, 3) := by decide +kernel
theorem dl_1293 : decode code 1293 = .ok (.iload 5, 2) := by decide +kernel
theorem dl_1295 : decode code 1295 = .ok (.if_icmp .eq 5, 3) := by decide +kernel
theorem dl_1300 : decode code 1300 = .ok (.iload 5, 2) := by decide +kernel
theorem dl_1302 : decode code 1302 = .ok (.ifCond .ne 15, 3) := by decide +kernel
theorem dl_1305 : decode code 1305 = .ok (.aload_n 3, 1) := by decide +kernel
theorem dl_1306 : decode code 1306 = .ok (.iconst 0, 1) := by decide +kernel
theorem dl_1307 : decode code 1307 = .ok (.laload, 1) := by decide +kernel
theorem dl_1308 : decode code 1308 = .ok (.iload 6, 2) := by decide +kernel
theorem dl_1310 : decode code 1310 = .ok (.i2l, 1) := by decide +kernel
theorem dl_1311 : decode code 1311 = .ok (.lcmp, 1) := by decide +kernel
theorem dl_1312 : decode code 1312 = .ok (.ifCond .eq 5, 3) := by decide +kernel
theorem dl_1317 : decode code 1317 = .ok (.goto 764, 3) := by decide +kernel
theorem dl_1320 : decode code 1320 = .ok (.aload_n 1, 1) := by decide +kernel
theorem dl_1345 : decode code 1345 = .ok (.aload_n 3, 1) := by decide +kernel
theorem dl_1346 : decode code 1346 = .ok (.invokestatic 153, 3) := by decide +kernel
theorem dl_1349 : decode code 1349 = .ok (.istore 5, 2) := by decide +kernel
theorem dl_1351 : decode code 1351 = .ok (.aload_n 2, 1) := by decide +kernel
theorem dl_1376 : decode code 1376 = .ok (.invokevirtual 155, 3) := by decide +kernel
theorem dl_1379 : decode code 1379 = .ok (.istore 6, 2) := by decide +kernel
theorem dl_1381 : decode code 1381 = .ok (.aload_n 2, 1) := by decide +kernel
theorem dl_1382 : decode code 1382 = .ok (.invokevirtual 107, 3) := by decide +kernel
theorem dl_1385 : decode code 1385 = .ok (.iload 5, 2) := by decide +kernel
theorem dl_1387 : decode code 1387 = .ok (.if_icmp .eq 5, 3) := by decide +kernel
theorem dl_1392 : decode code 1392 = .ok (.iload 5, 2) := by decide +kernel
theorem dl_1394 : decode code 1394 = .ok (.ifCond .ne 15, 3) := by decide +kernel
theorem dl_1397 : decode code 1397 = .ok (.aload_n 3, 1) := by decide +kernel
theorem dl_1398 : decode code 1398 = .ok (.iconst 0, 1) := by decide +kernel
theorem dl_1399 : decode code 1399 = .ok (.laload, 1) := by decide +kernel
theorem dl_1400 : decode code 1400 = .ok (.iload 6, 2) := by decide +kernel
theorem dl_1402 : decode code 1402 = .ok (.i2l, 1) := by decide +kernel
theorem dl_1403 : decode code 1403 = .ok (.lcmp, 1) := by decide +kernel
theorem dl_1404 : decode code 1404 = .ok (.ifCond .eq 5, 3) := by decide +kernel
theorem dl_1409 : decode code 1409 = .ok (.goto 672, 3) := by decide +kernel
theorem dl_1412 : decode code 1412 = .ok (.aload_n 1, 1) := by decide +kernel
theorem dl_1425 : decode code 1425 = .ok (.aload_n 3, 1) := by decide +kernel
theorem dl_1426 : decode code 1426 = .ok (.invokestatic 156, 3) := by decide +kernel
theorem dl_1429 : decode code 1429 = .ok (.istore 5, 2) := by decide +kernel
theorem dl_1431 : decode code 1431 = .ok (.aload_n 2, 1) := by decide +kernel
theorem dl_1444 : decode code 1444 = .ok (.invokevirtual 158, 3) := by decide +kernel
theorem dl_1447 : decode code 1447 = .ok (.istore 6, 2) := by decide +kernel
theorem dl_1449 : decode code 1449 = .ok (.aload_n 2, 1) := by decide +kernel
theorem dl_1450 : decode code 1450 = .ok (.invokevirtual 107, 3) := by decide +kernel
theorem dl_1453 : decode code 1453 = .ok (.iload 5, 2) := by decide +kernel
theorem dl_1455 : decode code 1455 = .ok (.if_icmp .eq 5, 3) := by decide +kernel
theorem dl_1460 : decode code 1460 = .ok (.iload 5, 2) := by decide +kernel
theorem dl_1462 : decode code 1462 = .ok (.ifCond .ne 15, 3) := by decide +kernel
theorem dl_1465 : decode code 1465 = .ok (.aload_n 3, 1) := by decide +kernel
theorem dl_1466 : decode code 1466 = .ok (.iconst 0, 1) := by decide +kernel
theorem dl_1467 : decode code 1467 = .ok (.laload, 1) := by decide +kernel
theorem dl_1468 : decode code 1468 = .ok (.iload 6, 2) := by decide +kernel
theorem dl_1470 : decode code 1470 = .ok (.i2l, 1) := by decide +kernel
theorem dl_1471 : decode code 1471 = .ok (.lcmp, 1) := by decide +kernel
theorem dl_1472 : decode code 1472 = .ok (.ifCond .eq 5, 3) := by decide +kernel
theorem dl_1477 : decode code 1477 = .ok (.goto 604, 3) := by decide +kernel
theorem dl_1480 : decode code 1480 = .ok (.aload_n 1, 1) := by decide +kernel
theorem dl_1493 : decode code 1493 = .ok (.aload_n 3, 1) := by decide +kernel
theorem dl_1494 : decode code 1494 = .ok (.invokestatic 159, 3) := by decide +kernel
theorem dl_1497 : decode code 1497 = .ok (.istore 5, 2) := by decide +kernel
theorem dl_1499 : decode code 1499 = .ok (.aload_n 2, 1) := by decide +kernel
theorem dl_1512 : decode code 1512 = .ok (.invokevirtual 161, 3) := by decide +kernel
theorem dl_1515 : decode code 1515 = .ok (.istore 6, 2) := by decide +kernel
theorem dl_1517 : decode code 1517 = .ok (.aload_n 2, 1) := by decide +kernel
theorem dl_1518 : decode code 1518 = .ok (.invokevirtual 107, 3) := by decide +kernel
theorem dl_1521 : decode code 1521 = .ok (.iload 5, 2) := by decide +kernel
theorem dl_1523 : decode code 1523 = .ok (.if_icmp .eq 5, 3) := by decide +kernel
theorem dl_1528 : decode code 1528 = .ok (.iload 5, 2) := by decide +kernel
theorem dl_1530 : decode code 1530 = .ok (.ifCond .ne 15, 3) := by decide +kernel
theorem dl_1533 : decode code 1533 = .ok (.aload_n 3, 1) := by decide +kernel
theorem dl_1534 : decode code 1534 = .ok (.iconst 0, 1) := by decide +kernel
theorem dl_1535 : decode code 1535 = .ok (.laload, 1) := by decide +kernel
theorem dl_1536 : decode code 1536 = .ok (.iload 6, 2) := by decide +kernel
theorem dl_1538 : decode code 1538 = .ok (.i2l, 1) := by decide +kernel
theorem dl_1539 : decode code 1539 = .ok (.lcmp, 1) := by decide +kernel
theorem dl_1540 : decode code 1540 = .ok (.ifCond .eq 5, 3) := by decide +kernel
theorem dl_1545 : decode code 1545 = .ok (.goto 536, 3) := by decide +kernel
theorem dl_1548 : decode code 1548 = .ok (.aload_n 1, 1) := by decide +kernel
theorem dl_1573 : decode code 1573 = .ok (.aload_n 3, 1) := by decide +kernel
theorem dl_1574 : decode code 1574 = .ok (.invokestatic 162, 3) := by decide +kernel
theorem dl_1577 : decode code 1577 = .ok (.istore 5, 2) := by decide +kernel
theorem dl_1579 : decode code 1579 = .ok (.aload_n 2, 1) := by decide +kernel
theorem dl_1604 : decode code 1604 = .ok (.invokevirtual 164, 3) := by decide +kernel
theorem dl_1607 : decode code 1607 = .ok (.istore 6, 2) := by decide +kernel
theorem dl_1609 : decode code 1609 = .ok (.aload_n 2, 1) := by decide +kernel
theorem dl_1610 : decode code 1610 = .ok (.invokevirtual 107, 3) := by decide +kernel
theorem dl_1613 : decode code 1613 = .ok (.iload 5, 2) := by decide +kernel
theorem dl_1615 : decode code 1615 = .ok (.if_icmp .eq 5, 3) := by decide +kernel
theorem dl_1620 : decode code 1620 = .ok (.iload 5, 2) := by decide +kernel
theorem dl_1622 : decode code 1622 = .ok (.ifCond .ne 15, 3) := by decide +kernel
theorem dl_1625 : decode code 1625 = .ok (.aload_n 3, 1) := by decide +kernel
theorem dl_1626 : decode code 1626 = .ok (.iconst 0, 1) := by decide +kernel
theorem dl_1627 : decode code 1627 = .ok (.laload, 1) := by decide +kernel
theorem dl_1628 : decode code 1628 = .ok (.iload 6, 2) := by decide +kernel
theorem dl_1630 : decode code 1630 = .ok (.i2l, 1) := by decide +kernel
theorem dl_1631 : decode code 1631 = .ok (.lcmp, 1) := by decide +kernel
theorem dl_1632 : decode code 1632 = .ok (.ifCond .eq 5, 3) := by decide +kernel
theorem dl_1637 : decode code 1637 = .ok (.goto 444, 3) := by decide +kernel
theorem dl_1640 : decode code 1640 = .ok (.aload_n 1, 1) := by decide +kernel
theorem dl_1641 : decode code 1641 = .ok (.invokevirtual 165, 3) := by decide +kernel
theorem dl_1644 : decode code 1644 = .ok (.aload_n 2, 1) := by decide +kernel
theorem dl_1645 : decode code 1645 = .ok (.invokevirtual 168, 3) := by decide +kernel
theorem dl_1648 : decode code 1648 = .ok (.if_icmp .eq 433, 3) := by decide +kernel
theorem dl_1653 : decode code 1653 = .ok (.aload_n 1, 1) := by decide +kernel
theorem dl_1654 : decode code 1654 = .ok (.invokevirtual 169, 3) := by decide +kernel
theorem dl_1657 : decode code 1657 = .ok (.aload_n 2, 1) := by decide +kernel
theorem dl_1658 : decode code 1658 = .ok (.invokevirtual 172, 3) := by decide +kernel
theorem dl_1661 : decode code 1661 = .ok (.if_icmp .eq 420, 3) := by decide +kernel
theorem dl_1666 : decode code 1666 = .ok (.aload_n 1, 1) := by decide +kernel
theorem dl_1673 : decode code 1673 = .ok (.aload_n 3, 1) := by decide +kernel
theorem dl_1674 : decode code 1674 = .ok (.invokestatic 173, 3) := by decide +kernel
theorem dl_1677 : decode code 1677 = .ok (.istore 5, 2) := by decide +kernel
theorem dl_1679 : decode code 1679 = .ok (.aload_n 2, 1) := by decide +kernel
theorem dl_1686 : decode code 1686 = .ok (.invokevirtual 175, 3) := by decide +kernel
theorem dl_1689 : decode code 1689 = .ok (.istore 6, 2) := by decide +kernel
theorem dl_1691 : decode code 1691 = .ok (.aload_n 2, 1) := by decide +kernel
theorem dl_1692 : decode code 1692 = .ok (.invokevirtual 107, 3) := by decide +kernel
theorem dl_1695 : decode code 1695 = .ok (.iload 5, 2) := by decide +kernel
theorem dl_1697 : decode code 1697 = .ok (.if_icmp .eq 5, 3) := by decide +kernel
theorem dl_1702 : decode code 1702 = .ok (.iload 5, 2) := by decide +kernel
theorem dl_1704 : decode code 1704 = .ok (.ifCond .ne 15, 3) := by decide +kernel
theorem dl_1707 : decode code 1707 = .ok (.aload_n 3, 1) := by decide +kernel
theorem dl_1708 : decode code 1708 = .ok (.iconst 0, 1) := by decide +kernel
theorem dl_1709 : decode code 1709 = .ok (.laload, 1) := by decide +kernel
theorem dl_1710 : decode code 1710 = .ok (.iload 6, 2) := by decide +kernel
theorem dl_1712 : decode code 1712 = .ok (.i2l, 1) := by decide +kernel
theorem dl_1713 : decode code 1713 = .ok (.lcmp, 1) := by decide +kernel
theorem dl_1714 : decode code 1714 = .ok (.ifCond .eq 5, 3) := by decide +kernel
theorem dl_1719 : decode code 1719 = .ok (.goto 362, 3) := by decide +kernel
theorem dl_1722 : decode code 1722 = .ok (.aload_n 1, 1) := by decide +kernel
theorem dl_1729 : decode code 1729 = .ok (.aload_n 3, 1) := by decide +kernel
theorem dl_1730 : decode code 1730 = .ok (.invokestatic 176, 3) := by decide +kernel
theorem dl_1733 : decode code 1733 = .ok (.istore 5, 2) := by decide +kernel
theorem dl_1735 : decode code 1735 = .ok (.aload_n 2, 1) := by decide +kernel
theorem dl_1742 : decode code 1742 = .ok (.invokevirtual 178, 3) := by decide +kernel
theorem dl_1745 : decode code 1745 = .ok (.istore 6, 2) := by decide +kernel
theorem dl_1747 : decode code 1747 = .ok (.aload_n 2, 1) := by decide +kernel
theorem dl_1748 : decode code 1748 = .ok (.invokevirtual 107, 3) := by decide +kernel
theorem dl_1751 : decode code 1751 = .ok (.iload 5, 2) := by decide +kernel
theorem dl_1753 : decode code 1753 = .ok (.if_icmp .eq 5, 3) := by decide +kernel
theorem dl_1758 : decode code 1758 = .ok (.iload 5, 2) := by decide +kernel
theorem dl_1760 : decode code 1760 = .ok (.ifCond .ne 15, 3) := by decide +kernel
theorem dl_1763 : decode code 1763 = .ok (.aload_n 3, 1) := by decide +kernel
theorem dl_1764 : decode code 1764 = .ok (.iconst 0, 1) := by decide +kernel
theorem dl_1765 : decode code 1765 = .ok (.laload, 1) := by decide +kernel
theorem dl_1766 : decode code 1766 = .ok (.iload 6, 2) := by decide +kernel
theorem dl_1768 : decode code 1768 = .ok (.i2l, 1) := by decide +kernel
theorem dl_1769 : decode code 1769 = .ok (.lcmp, 1) := by decide +kernel
theorem dl_1770 : decode code 1770 = .ok (.ifCond .eq 5, 3) := by decide +kernel
theorem dl_1775 : decode code 1775 = .ok (.goto 306, 3) := by decide +kernel
theorem dl_1778 : decode code 1778 = .ok (.aload_n 1, 1) := by decide +kernel
theorem dl_1785 : decode code 1785 = .ok (.aload_n 3, 1) := by decide +kernel
theorem dl_1786 : decode code 1786 = .ok (.invokestatic 179, 3) := by decide +kernel
theorem dl_1789 : decode code 1789 = .ok (.istore 5, 2) := by decide +kernel
theorem dl_1791 : decode code 1791 = .ok (.aload_n 2, 1) := by decide +kernel
theorem dl_1798 : decode code 1798 = .ok (.invokevirtual 181, 3) := by decide +kernel
theorem dl_1801 : decode code 1801 = .ok (.istore 6, 2) := by decide +kernel
theorem dl_1803 : decode code 1803 = .ok (.aload_n 2, 1) := by decide +kernel
theorem dl_1804 : decode code 1804 = .ok (.invokevirtual 107, 3) := by decide +kernel
theorem dl_1807 : decode code 1807 = .ok (.iload 5, 2) := by decide +kernel
theorem dl_1809 : decode code 1809 = .ok (.if_icmp .eq 5, 3) := by decide +kernel
theorem dl_1814 : decode code 1814 = .ok (.iload 5, 2) := by decide +kernel
theorem dl_1816 : decode code 1816 = .ok (.ifCond .ne 15, 3) := by decide +kernel
theorem dl_1819 : decode code 1819 = .ok (.aload_n 3, 1) := by decide +kernel
theorem dl_1820 : decode code 1820 = .ok (.iconst 0, 1) := by decide +kernel
theorem dl_1821 : decode code 1821 = .ok (.laload, 1) := by decide +kernel
theorem dl_1822 : decode code 1822 = .ok (.iload 6, 2) := by decide +kernel
theorem dl_1824 : decode code 1824 = .ok (.i2l, 1) := by decide +kernel
theorem dl_1825 : decode code 1825 = .ok (.lcmp, 1) := by decide +kernel
theorem dl_1826 : decode code 1826 = .ok (.ifCond .eq 5, 3) := by decide +kernel
theorem dl_1831 : decode code 1831 = .ok (.goto 250, 3) := by decide +kernel
theorem dl_1834 : decode code 1834 = .ok (.aload_n 1, 1) := by decide +kernel
theorem dl_1847 : decode code 1847 = .ok (.ifCond .eq 7, 3) := by decide +kernel
theorem dl_1850 : decode code 1850 = .ok (.iconst 1, 1) := by decide +kernel
theorem dl_1851 : decode code 1851 = .ok (.goto 4, 3) := by decide +kernel
theorem dl_1854 : decode code 1854 = .ok (.iconst 0, 1) := by decide +kernel
theorem dl_1855 : decode code 1855 = .ok (.aload_n 3, 1) := by decide +kernel
theorem dl_1856 : decode code 1856 = .ok (.invokestatic 182, 3) := by decide +kernel
theorem dl_1859 : decode code 1859 = .ok (.istore 5, 2) := by decide +kernel
theorem dl_1861 : decode code 1861 = .ok (.aload_n 2, 1) := by decide +kernel
theorem dl_1874 : decode code 1874 = .ok (.ifCond .eq 7, 3) := by decide +kernel
theorem dl_1877 : decode code 1877 = .ok (.iconst 1, 1) := by decide +kernel
theorem dl_1878 : decode code 1878 = .ok (.goto 4, 3) := by decide +kernel
theorem dl_1881 : decode code 1881 = .ok (.iconst 0, 1) := by decide +kernel
theorem dl_1882 : decode code 1882 = .ok (.invokevirtual 185, 3) := by decide +kernel
theorem dl_1885 : decode code 1885 = .ok (.istore 6, 2) := by decide +kernel
theorem dl_1887 : decode code 1887 = .ok (.aload_n 2, 1) := by decide +kernel
theorem dl_1888 : decode code 1888 = .ok (.invokevirtual 107, 3) := by decide +kernel
theorem dl_1891 : decode code 1891 = .ok (.iload 5, 2) := by decide +kernel
theorem dl_1893 : decode code 1893 = .ok (.if_icmp .eq 5, 3) := by decide +kernel
theorem dl_1898 : decode code 1898 = .ok (.iload 5, 2) := by decide +kernel
theorem dl_1900 : decode code 1900 = .ok (.ifCond .ne 15, 3) := by decide +kernel
theorem dl_1903 : decode code 1903 = .ok (.aload_n 3, 1) := by decide +kernel
theorem dl_1904 : decode code 1904 = .ok (.iconst 0, 1) := by decide +kernel
theorem dl_1905 : decode code 1905 = .ok (.laload, 1) := by decide +kernel
theorem dl_1906 : decode code 1906 = .ok (.iload 6, 2) := by decide +kernel
theorem dl_1908 : decode code 1908 = .ok (.i2l, 1) := by decide +kernel
theorem dl_1909 : decode code 1909 = .ok (.lcmp, 1) := by decide +kernel
theorem dl_1910 : decode code 1910 = .ok (.ifCond .eq 5, 3) := by decide +kernel
theorem dl_1915 : decode code 1915 = .ok (.goto 166, 3) := by decide +kernel
theorem dl_1918 : decode code 1918 = .ok (.aload_n 1, 1) := by decide +kernel
theorem dl_1919 : decode code 1919 = .ok (.aload_n 3, 1) := by decide +kernel
theorem dl_1920 : decode code 1920 = .ok (.invokestatic 186, 3) := by decide +kernel
theorem dl_1923 : decode code 1923 = .ok (.istore 5, 2) := by decide +kernel
theorem dl_1925 : decode code 1925 = .ok (.aload_n 2, 1) := by decide +kernel
theorem dl_1926 : decode code 1926 = .ok (.invokevirtual 188, 3) := by decide +kernel
theorem dl_1929 : decode code 1929 = .ok (.istore 6, 2) := by decide +kernel
theorem dl_1931 : decode code 1931 = .ok (.aload_n 2, 1) := by decide +kernel
theorem dl_1932 : decode code 1932 = .ok (.invokevirtual 107, 3) := by decide +kernel
theorem dl_1935 : decode code 1935 = .ok (.iload 5, 2) := by decide +kernel
theorem dl_1937 : decode code 1937 = .ok (.if_icmp .eq 5, 3) := by decide +kernel
theorem dl_1942 : decode code 1942 = .ok (.iload 5, 2) := by decide +kernel
theorem dl_1944 : decode code 1944 = .ok (.ifCond .ne 15, 3) := by decide +kernel
theorem dl_1947 : decode code 1947 = .ok (.aload_n 3, 1) := by decide +kernel
theorem dl_1948 : decode code 1948 = .ok (.iconst 0, 1) := by decide +kernel
theorem dl_1949 : decode code 1949 = .ok (.laload, 1) := by decide +kernel
theorem dl_1950 : decode code 1950 = .ok (.iload 6, 2) := by decide +kernel
theorem dl_1952 : decode code 1952 = .ok (.i2l, 1) := by decide +kernel
theorem dl_1953 : decode code 1953 = .ok (.lcmp, 1) := by decide +kernel
theorem dl_1954 : decode code 1954 = .ok (.ifCond .eq 5, 3) := by decide +kernel
theorem dl_1959 : decode code 1959 = .ok (.goto 122, 3) := by decide +kernel
theorem dl_1962 : decode code 1962 = .ok (.aload_n 1, 1) := by decide +kernel
theorem dl_1969 : decode code 1969 = .ok (.aload_n 3, 1) := by decide +kernel
theorem dl_1970 : decode code 1970 = .ok (.invokestatic 189, 3) := by decide +kernel
theorem dl_1973 : decode code 1973 = .ok (.istore 5, 2) := by decide +kernel
theorem dl_1975 : decode code 1975 = .ok (.aload_n 2, 1) := by decide +kernel
theorem dl_1982 : decode code 1982 = .ok (.invokevirtual 191, 3) := by decide +kernel
theorem dl_1985 : decode code 1985 = .ok (.istore 6, 2) := by decide +kernel
theorem dl_1987 : decode code 1987 = .ok (.aload_n 2, 1) := by decide +kernel
theorem dl_1988 : decode code 1988 = .ok (.invokevirtual 107, 3) := by decide +kernel
theorem dl_1991 : decode code 1991 = .ok (.iload 5, 2) := by decide +kernel
theorem dl_1993 : decode code 1993 = .ok (.if_icmp .eq 5, 3) := by decide +kernel
theorem dl_1998 : decode code 1998 = .ok (.iload 5, 2) := by decide +kernel
theorem dl_2000 : decode code 2000 = .ok (.ifCond .ne 15, 3) := by decide +kernel
theorem dl_2003 : decode code 2003 = .ok (.aload_n 3, 1) := by decide +kernel
theorem dl_2004 : decode code 2004 = .ok (.iconst 0, 1) := by decide +kernel
theorem dl_2005 : decode code 2005 = .ok (.laload, 1) := by decide +kernel
theorem dl_2006 : decode code 2006 = .ok (.iload 6, 2) := by decide +kernel
theorem dl_2008 : decode code 2008 = .ok (.i2l, 1) := by decide +kernel
theorem dl_2009 : decode code 2009 = .ok (.lcmp, 1) := by decide +kernel
theorem dl_2010 : decode code 2010 = .ok (.ifCond .eq 5, 3) := by decide +kernel
theorem dl_2015 : decode code 2015 = .ok (.goto 66, 3) := by decide +kernel
theorem dl_2018 : decode code 2018 = .ok (.aload_n 1, 1) := by decide +kernel
theorem dl_2025 : decode code 2025 = .ok (.aload_n 3, 1) := by decide +kernel
theorem dl_2026 : decode code 2026 = .ok (.invokestatic 192, 3) := by decide +kernel
theorem dl_2029 : decode code 2029 = .ok (.istore 5, 2) := by decide +kernel
theorem dl_2031 : decode code 2031 = .ok (.aload_n 2, 1) := by decide +kernel
theorem dl_2038 : decode code 2038 = .ok (.invokevirtual 194, 3) := by decide +kernel
theorem dl_2041 : decode code 2041 = .ok (.istore 6, 2) := by decide +kernel
theorem dl_2043 : decode code 2043 = .ok (.aload_n 2, 1) := by decide +kernel
theorem dl_2044 : decode code 2044 = .ok (.invokevirtual 107, 3) := by decide +kernel
theorem dl_2047 : decode code 2047 = .ok (.iload 5, 2) := by decide +kernel
theorem dl_2049 : decode code 2049 = .ok (.if_icmp .eq 5, 3) := by decide +kernel
theorem dl_2054 : decode code 2054 = .ok (.iload 5, 2) := by decide +kernel
theorem dl_2056 : decode code 2056 = .ok (.ifCond .ne 22, 3) := by decide +kernel
theorem dl_2059 : decode code 2059 = .ok (.aload_n 3, 1) := by decide +kernel
theorem dl_2060 : decode code 2060 = .ok (.iconst 0, 1) := by decide +kernel
theorem dl_2061 : decode code 2061 = .ok (.laload, 1) := by decide +kernel
theorem dl_2062 : decode code 2062 = .ok (.iload 6, 2) := by decide +kernel
theorem dl_2064 : decode code 2064 = .ok (.ifCond .eq 7, 3) := by decide +kernel
theorem dl_2067 : decode code 2067 = .ok (.lconst 1, 1) := by decide +kernel
theorem dl_2068 : decode code 2068 = .ok (.goto 4, 3) := by decide +kernel
theorem dl_2071 : decode code 2071 = .ok (.lconst 0, 1) := by decide +kernel
theorem dl_2072 : decode code 2072 = .ok (.lcmp, 1) := by decide +kernel
theorem dl_2073 : decode code 2073 = .ok (.ifCond .eq 5, 3) := by decide +kernel
theorem dl_2078 : decode code 2078 = .ok (.goto 3, 3) := by decide +kernel
theorem dl_2081 : decode code 2081 = .ok (.iinc 4 6, 3) := by decide +kernel
theorem dl_2084 : decode code 2084 = .ok (.goto (-2061), 3) := by decide +kernel
theorem dl_2087 : decode code 2087 = .ok (.iconst 1, 1) := by decide +kernel
theorem dl_2088 : decode code 2088 = .ok (.ireturn, 1) := by decide +kernel
def Op_constructor (Rel : Sg → Sg → Prop) : Prop := ∀ (σ τ : Sg) (a1 : Int) (a2 : Int) (a3 : Int) (a4 : Int) (a5 : Int), Rel σ τ → inR a1 → inR a2 → inR a3 → inR a4 → inR a5 → inRs σ → inRs τ → ∃ q r, F_X10_constructor a1 a2 a3 a4 a5 σ = some q ∧ F_X11_constructor a1 a2 a3 a4 a5 τ = some r ∧ Ag [(0, 1), (1, 2), (2, 3)] q.1 r.1 (r.2 0 0) ∧ Rel q.2 r.2
theorem lnh_constructor : Cond.methodLink (ownN 12) 101 yL_constructor ∈ TB := tb_at 381 (by decide +kernel) (by decide +kernel)
set_option maxHeartbeats 4000000 in
theorem lc_constructor (Rel : Sg → Sg → Prop) (h : Op_constructor Rel) (hC : Cx 12 code 7 false p s m args meth c (AL s) D cI cZ) (hK : KO D cI cZ cJ s) (hT : TH (AL s) s s.heap) (hl : l.stackTraces = false) {xs : Nat → Int32} {L9 : Nat} {i : Int} (hX : va_X b L9 xs s s.heap) (hbl : b < s.heap.size) (hi : 0 ≤ i) (hi5 : i + 5 < L9) (hL9 : L9 ≤ 3072) (hRf : 401 ≤ R.frames) (hRl : 16039 ≤ R.locals) (hkc : kc + 1 ≤ R.cells) (hks : ks + 6 ≤ R.slots) (hrel : Rel σ τ) (kk : ∀ (σ' τ' : Sg) (ov' : Int), Rel σ' τ' → Rg p l e R s m args below meth c (PwL D cI cZ cJ s ax am ao b σ' τ' ov') (kc + 1) (ks + 6) Q 7 2081 (Lw i) []) : Rg p l e R s m args below meth c (PwL D cI cZ cJ s ax am ao b σ τ ov) kc ks Q 7 164 (Lw i) [] := by
  refine rl_inR (fun hrs hrt => ?_)
  obtain ⟨q, r, hq, hr, hag, hrel2⟩ := h σ τ ((xs (i + (1 : Nat)).toNat).toInt) ((xs (i + (2 : Nat)).toNat).toInt) ((xs (i + (3 : Nat)).toNat).toInt) ((xs (i + (4 : Nat)).toNat).toInt) ((xs (i + (5 : Nat)).toNat).toInt) hrel (i32_toInt_in _) (i32_toInt_in _) (i32_toInt_in _) (i32_toInt_in _) (i32_toInt_in _) hrs hrt
  obtain ⟨ov2, hkw, hov, hin⟩ := ag_kw (ov := ov) hag
  refine rg_aload_n ⟨hC.1, hC.2.1⟩ dl_164 rfl ?_
  refine rl_arg (j := 1) hC hX hbl hi hi5 hL9 (by decide) rfl rfl (by decide +kernel : argOK code 165 1 = true) ?_
  refine rl_arg (j := 2) hC hX hbl hi hi5 hL9 (by decide) rfl rfl (by decide +kernel : argOK code 171 2 = true) ?_
  refine rl_arg (j := 3) hC hX hbl hi hi5 hL9 (by decide) rfl rfl (by decide +kernel : argOK code 177 3 = true) ?_
  refine rl_arg (j := 4) hC hX hbl hi hi5 hL9 (by decide) rfl rfl (by decide +kernel : argOK code 183 4 = true) ?_
  refine rl_arg (j := 5) hC hX hbl hi hi5 hL9 (by decide) rfl rfl (by decide +kernel : argOK code 189 5 = true) ?_
  refine rg_aload_n ⟨hC.1, hC.2.1⟩ dl_195 rfl ?_
  refine rl_help (n := 7) (d1 := 400) (vs := [(xs (i + (1 : Nat)).toNat).toInt, (xs (i + (2 : Nat)).toNat).toInt, (xs (i + (3 : Nat)).toNat).toInt, (xs (i + (4 : Nat)).toNat).toInt, (xs (i + (5 : Nat)).toNat).toInt]) (k := r.2 0 0) (σ' := q.2) (ov' := ov2) hC hK hT hRf hRl dl_196 lnh_constructor cw_constructor sw_constructor inL (by decide) ⟨by decide, by decide, by decide +kernel⟩ rfl (Nat.le_of_ble_eq_true rfl) hkc hks (wc_constructor l hl 400 (by omega) ((xs (i + (1 : Nat)).toNat).toInt) ((xs (i + (2 : Nat)).toNat).toInt) ((xs (i + (3 : Nat)).toNat).toInt) ((xs (i + (4 : Nat)).toNat).toInt) ((xs (i + (5 : Nat)).toNat).toInt) σ ov _ _ q hq hkw) ?_ hin _ rfl
  refine rg_istore ⟨hC.1, hC.2.1⟩ dl_199 (Nat.le_of_ble_eq_true rfl) ?_
  refine rg_aload_n ⟨hC.1, hC.2.1⟩ dl_201 rfl ?_
  refine rl_arg (j := 1) hC hX hbl hi hi5 hL9 (by decide) rfl rfl (by decide +kernel : argOK code 202 1 = true) ?_
  refine rl_arg (j := 2) hC hX hbl hi hi5 hL9 (by decide) rfl rfl (by decide +kernel : argOK code 208 2 = true) ?_
  refine rl_arg (j := 3) hC hX hbl hi hi5 hL9 (by decide) rfl rfl (by decide +kernel : argOK code 214 3 = true) ?_
  refine rl_arg (j := 4) hC hX hbl hi hi5 hL9 (by decide) rfl rfl (by decide +kernel : argOK code 220 4 = true) ?_
  refine rl_arg (j := 5) hC hX hbl hi hi5 hL9 (by decide) rfl rfl (by decide +kernel : argOK code 226 5 = true) ?_
  refine rl_m (M1 := m_X11_constructor) (vs := [(xs (i + (1 : Nat)).toNat).toInt, (xs (i + (2 : Nat)).toNat).toInt, (xs (i + (3 : Nat)).toNat).toInt, (xs (i + (4 : Nat)).toNat).toInt, (xs (i + (5 : Nat)).toNat).toInt]) (d1 := 400) hC hRf hRl dl_232 ln_12_106 im_X11_constructor mk_X11_constructor rfl rfl (Nat.le_of_ble_eq_true rfl) hkc hks (lk_X11_constructor l 400 (by omega) ((xs (i + (1 : Nat)).toNat).toInt) ((xs (i + (2 : Nat)).toNat).toInt) ((xs (i + (3 : Nat)).toNat).toInt) ((xs (i + (4 : Nat)).toNat).toInt) ((xs (i + (5 : Nat)).toNat).toInt) τ r hr) ?_ _ rfl
  refine rg_istore ⟨hC.1, hC.2.1⟩ dl_235 (Nat.le_of_ble_eq_true rfl) ?_
  refine rg_aload_n ⟨hC.1, hC.2.1⟩ dl_237 rfl ?_
  refine rl_m (M1 := m_X11_thrown) (vs := []) (d1 := 400) hC hRf hRl dl_238 ln_12_107 im_X11_thrown mk_X11_thrown rfl rfl (Nat.le_of_ble_eq_true rfl) hkc hks (lk_X11_thrown l 400 (by omega) r.2 _ rfl) ?_ _ rfl
  refine rg_iload ⟨hC.1, hC.2.1⟩ dl_241 rfl ?_
  refine rg_icmp_eq ⟨hC.1, hC.2.1⟩ dl_243 (by rfl) (fun _ => ?_) (fun h9 => absurd rfl h9)
  refine rg_iload ⟨hC.1, hC.2.1⟩ dl_248 rfl ?_
  refine rg_if_ne ⟨hC.1, hC.2.1⟩ dl_250 (by rfl) (fun _ => ?_) (fun h0 => ?_)
  · exact rg_goto ⟨hC.1, hC.2.1⟩ dl_265 (by rfl) (rg_weak (L' := Lw i) (Nat.le_of_ble_eq_true rfl) lw_weak (kk _ _ _ hrel2))
  · refine rg_aload_n ⟨hC.1, hC.2.1⟩ dl_253 rfl ?_
    refine rg_iconst ⟨hC.1, hC.2.1⟩ dl_254 in0 ?_
    obtain rfl := hov h0
    refine rl_cmp (tgt := 265) hC hK dl_255 dl_256 rfl dl_258 dl_259 dl_260 (by rfl) ?_
    exact rg_goto ⟨hC.1, hC.2.1⟩ dl_265 (by rfl) (rg_weak (L' := Lw i) (Nat.le_of_ble_eq_true rfl) lw_weak (kk _ _ _ hrel2))
def Op_num (Rel : Sg → Sg → Prop) : Prop := ∀ (σ τ : Sg) (a1 : Int), Rel σ τ → inR a1 → inRs σ → inRs τ → ∃ q r, F_X10_num a1 σ = some q ∧ F_X11_num a1 τ = some r ∧ Ag [(1, 1), (2, 2)] q.1 r.1 (r.2 0 0) ∧ Rel q.2 r.2
theorem lnh_num : Cond.methodLink (ownN 12) 110 yL_num ∈ TB := tb_at 540 (by decide +kernel) (by decide +kernel)
set_option maxHeartbeats 4000000 in
theorem lc_num (Rel : Sg → Sg → Prop) (h : Op_num Rel) (hC : Cx 12 code 7 false p s m args meth c (AL s) D cI cZ) (hK : KO D cI cZ cJ s) (hT : TH (AL s) s s.heap) (hl : l.stackTraces = false) {xs : Nat → Int32} {L9 : Nat} {i : Int} (hX : va_X b L9 xs s s.heap) (hbl : b < s.heap.size) (hi : 0 ≤ i) (hi5 : i + 5 < L9) (hL9 : L9 ≤ 3072) (hRf : 401 ≤ R.frames) (hRl : 16039 ≤ R.locals) (hkc : kc + 1 ≤ R.cells) (hks : ks + 6 ≤ R.slots) (hrel : Rel σ τ) (kk : ∀ (σ' τ' : Sg) (ov' : Int), Rel σ' τ' → Rg p l e R s m args below meth c (PwL D cI cZ cJ s ax am ao b σ' τ' ov') (kc + 1) (ks + 6) Q 7 2081 (Lw i) []) : Rg p l e R s m args below meth c (PwL D cI cZ cJ s ax am ao b σ τ ov) kc ks Q 7 268 (Lw i) [] := by
  refine rl_inR (fun hrs hrt => ?_)
  obtain ⟨q, r, hq, hr, hag, hrel2⟩ := h σ τ ((xs (i + (1 : Nat)).toNat).toInt) hrel (i32_toInt_in _) hrs hrt
  obtain ⟨ov2, hkw, hov, hin⟩ := ag_kw (ov := ov) hag
  refine rg_aload_n ⟨hC.1, hC.2.1⟩ dl_268 rfl ?_
  refine rl_arg (j := 1) hC hX hbl hi hi5 hL9 (by decide) rfl rfl (by decide +kernel : argOK code 269 1 = true) ?_
  refine rg_aload_n ⟨hC.1, hC.2.1⟩ dl_275 rfl ?_
  refine rl_help (n := 3) (d1 := 400) (vs := [(xs (i + (1 : Nat)).toNat).toInt]) (k := r.2 0 0) (σ' := q.2) (ov' := ov2) hC hK hT hRf hRl dl_276 lnh_num cw_num sw_num inL (by decide) ⟨by decide, by decide, by decide +kernel⟩ rfl (Nat.le_of_ble_eq_true rfl) hkc hks (wc_num l hl 400 (by omega) ((xs (i + (1 : Nat)).toNat).toInt) σ ov _ _ q hq hkw) ?_ hin _ rfl
  refine rg_istore ⟨hC.1, hC.2.1⟩ dl_279 (Nat.le_of_ble_eq_true rfl) ?_
  refine rg_aload_n ⟨hC.1, hC.2.1⟩ dl_281 rfl ?_
  refine rl_arg (j := 1) hC hX hbl hi hi5 hL9 (by decide) rfl rfl (by decide +kernel : argOK code 282 1 = true) ?_
  refine rl_m (M1 := m_X11_num) (vs := [(xs (i + (1 : Nat)).toNat).toInt]) (d1 := 400) hC hRf hRl dl_288 ln_12_113 im_X11_num mk_X11_num rfl rfl (Nat.le_of_ble_eq_true rfl) hkc hks (lk_X11_num l 400 (by omega) ((xs (i + (1 : Nat)).toNat).toInt) τ r hr) ?_ _ rfl
  refine rg_istore ⟨hC.1, hC.2.1⟩ dl_291 (Nat.le_of_ble_eq_true rfl) ?_
  refine rg_aload_n ⟨hC.1, hC.2.1⟩ dl_293 rfl ?_
  refine rl_m (M1 := m_X11_thrown) (vs := []) (d1 := 400) hC hRf hRl dl_294 ln_12_107 im_X11_thrown mk_X11_thrown rfl rfl (Nat.le_of_ble_eq_true rfl) hkc hks (lk_X11_thrown l 400 (by omega) r.2 _ rfl) ?_ _ rfl
  refine rg_iload ⟨hC.1, hC.2.1⟩ dl_297 rfl ?_
  refine rg_icmp_eq ⟨hC.1, hC.2.1⟩ dl_299 (by rfl) (fun _ => ?_) (fun h9 => absurd rfl h9)
  refine rg_iload ⟨hC.1, hC.2.1⟩ dl_304 rfl ?_
  refine rg_if_ne ⟨hC.1, hC.2.1⟩ dl_306 (by rfl) (fun _ => ?_) (fun h0 => ?_)
  · exact rg_goto ⟨hC.1, hC.2.1⟩ dl_321 (by rfl) (rg_weak (L' := Lw i) (Nat.le_of_ble_eq_true rfl) lw_weak (kk _ _ _ hrel2))
  · refine rg_aload_n ⟨hC.1, hC.2.1⟩ dl_309 rfl ?_
    refine rg_iconst ⟨hC.1, hC.2.1⟩ dl_310 in0 ?_
    obtain rfl := hov h0
    refine rl_cmp (tgt := 321) hC hK dl_311 dl_312 rfl dl_314 dl_315 dl_316 (by rfl) ?_
    exact rg_goto ⟨hC.1, hC.2.1⟩ dl_321 (by rfl) (rg_weak (L' := Lw i) (Nat.le_of_ble_eq_true rfl) lw_weak (kk _ _ _ hrel2))
def Op_seq (Rel : Sg → Sg → Prop) : Prop := ∀ (σ τ : Sg) (a1 : Int) (a2 : Int) (a3 : Int) (a4 : Int), Rel σ τ → inR a1 → inR a2 → inR a3 → inR a4 → inRs σ → inRs τ → ∃ q r, F_X10_seq a1 a2 a3 a4 σ = some q ∧ F_X11_seq a1 a2 a3 a4 τ = some r ∧ Ag [(1, 1), (2, 2)] q.1 r.1 (r.2 0 0) ∧ Rel q.2 r.2
theorem lnh_seq : Cond.methodLink (ownN 12) 114 yL_seq ∈ TB := tb_at 583 (by decide +kernel) (by decide +kernel)
set_option maxHeartbeats 4000000 in
theorem lc_seq (Rel : Sg → Sg → Prop) (h : Op_seq Rel) (hC : Cx 12 code 7 false p s m args meth c (AL s) D cI cZ) (hK : KO D cI cZ cJ s) (hT : TH (AL s) s s.heap) (hl : l.stackTraces = false) {xs : Nat → Int32} {L9 : Nat} {i : Int} (hX : va_X b L9 xs s s.heap) (hbl : b < s.heap.size) (hi : 0 ≤ i) (hi5 : i + 5 < L9) (hL9 : L9 ≤ 3072) (hRf : 401 ≤ R.frames) (hRl : 16039 ≤ R.locals) (hkc : kc + 1 ≤ R.cells) (hks : ks + 6 ≤ R.slots) (hrel : Rel σ τ) (kk : ∀ (σ' τ' : Sg) (ov' : Int), Rel σ' τ' → Rg p l e R s m args below meth c (PwL D cI cZ cJ s ax am ao b σ' τ' ov') (kc + 1) (ks + 6) Q 7 2081 (Lw i) []) : Rg p l e R s m args below meth c (PwL D cI cZ cJ s ax am ao b σ τ ov) kc ks Q 7 324 (Lw i) [] := by
  refine rl_inR (fun hrs hrt => ?_)
  obtain ⟨q, r, hq, hr, hag, hrel2⟩ := h σ τ ((xs (i + (1 : Nat)).toNat).toInt) ((xs (i + (2 : Nat)).toNat).toInt) ((xs (i + (3 : Nat)).toNat).toInt) ((xs (i + (4 : Nat)).toNat).toInt) hrel (i32_toInt_in _) (i32_toInt_in _) (i32_toInt_in _) (i32_toInt_in _) hrs hrt
  obtain ⟨ov2, hkw, hov, hin⟩ := ag_kw (ov := ov) hag
  refine rg_aload_n ⟨hC.1, hC.2.1⟩ dl_324 rfl ?_
  refine rl_arg (j := 1) hC hX hbl hi hi5 hL9 (by decide) rfl rfl (by decide +kernel : argOK code 325 1 = true) ?_
  refine rl_arg (j := 2) hC hX hbl hi hi5 hL9 (by decide) rfl rfl (by decide +kernel : argOK code 331 2 = true) ?_
  refine rl_arg (j := 3) hC hX hbl hi hi5 hL9 (by decide) rfl rfl (by decide +kernel : argOK code 337 3 = true) ?_
  refine rl_arg (j := 4) hC hX hbl hi hi5 hL9 (by decide) rfl rfl (by decide +kernel : argOK code 343 4 = true) ?_
  refine rg_aload_n ⟨hC.1, hC.2.1⟩ dl_349 rfl ?_
  refine rl_help (n := 6) (d1 := 400) (vs := [(xs (i + (1 : Nat)).toNat).toInt, (xs (i + (2 : Nat)).toNat).toInt, (xs (i + (3 : Nat)).toNat).toInt, (xs (i + (4 : Nat)).toNat).toInt]) (k := r.2 0 0) (σ' := q.2) (ov' := ov2) hC hK hT hRf hRl dl_350 lnh_seq cw_seq sw_seq inL (by decide) ⟨by decide, by decide, by decide +kernel⟩ rfl (Nat.le_of_ble_eq_true rfl) hkc hks (wc_seq l hl 400 (by omega) ((xs (i + (1 : Nat)).toNat).toInt) ((xs (i + (2 : Nat)).toNat).toInt) ((xs (i + (3 : Nat)).toNat).toInt) ((xs (i + (4 : Nat)).toNat).toInt) σ ov _ _ q hq hkw) ?_ hin _ rfl
  refine rg_istore ⟨hC.1, hC.2.1⟩ dl_353 (Nat.le_of_ble_eq_true rfl) ?_
  refine rg_aload_n ⟨hC.1, hC.2.1⟩ dl_355 rfl ?_
  refine rl_arg (j := 1) hC hX hbl hi hi5 hL9 (by decide) rfl rfl (by decide +kernel : argOK code 356 1 = true) ?_
  refine rl_arg (j := 2) hC hX hbl hi hi5 hL9 (by decide) rfl rfl (by decide +kernel : argOK code 362 2 = true) ?_
  refine rl_arg (j := 3) hC hX hbl hi hi5 hL9 (by decide) rfl rfl (by decide +kernel : argOK code 368 3 = true) ?_
  refine rl_arg (j := 4) hC hX hbl hi hi5 hL9 (by decide) rfl rfl (by decide +kernel : argOK code 374 4 = true) ?_
  refine rl_m (M1 := m_X11_seq) (vs := [(xs (i + (1 : Nat)).toNat).toInt, (xs (i + (2 : Nat)).toNat).toInt, (xs (i + (3 : Nat)).toNat).toInt, (xs (i + (4 : Nat)).toNat).toInt]) (d1 := 400) hC hRf hRl dl_380 ln_12_117 im_X11_seq mk_X11_seq rfl rfl (Nat.le_of_ble_eq_true rfl) hkc hks (lk_X11_seq l 400 (by omega) ((xs (i + (1 : Nat)).toNat).toInt) ((xs (i + (2 : Nat)).toNat).toInt) ((xs (i + (3 : Nat)).toNat).toInt) ((xs (i + (4 : Nat)).toNat).toInt) τ r hr) ?_ _ rfl
  refine rg_istore ⟨hC.1, hC.2.1⟩ dl_383 (Nat.le_of_ble_eq_true rfl) ?_
  refine rg_aload_n ⟨hC.1, hC.2.1⟩ dl_385 rfl ?_
  refine rl_m (M1 := m_X11_thrown) (vs := []) (d1 := 400) hC hRf hRl dl_386 ln_12_107 im_X11_thrown mk_X11_thrown rfl rfl (Nat.le_of_ble_eq_true rfl) hkc hks (lk_X11_thrown l 400 (by omega) r.2 _ rfl) ?_ _ rfl
  refine rg_iload ⟨hC.1, hC.2.1⟩ dl_389 rfl ?_
  refine rg_icmp_eq ⟨hC.1, hC.2.1⟩ dl_391 (by rfl) (fun _ => ?_) (fun h9 => absurd rfl h9)
  refine rg_iload ⟨hC.1, hC.2.1⟩ dl_396 rfl ?_
  refine rg_if_ne ⟨hC.1, hC.2.1⟩ dl_398 (by rfl) (fun _ => ?_) (fun h0 => ?_)
  · exact rg_goto ⟨hC.1, hC.2.1⟩ dl_413 (by rfl) (rg_weak (L' := Lw i) (Nat.le_of_ble_eq_true rfl) lw_weak (kk _ _ _ hrel2))
  · refine rg_aload_n ⟨hC.1, hC.2.1⟩ dl_401 rfl ?_
    refine rg_iconst ⟨hC.1, hC.2.1⟩ dl_402 in0 ?_
    obtain rfl := hov h0
    refine rl_cmp (tgt := 413) hC hK dl_403 dl_404 rfl dl_406 dl_407 dl_408 (by rfl) ?_
    exact rg_goto ⟨hC.1, hC.2.1⟩ dl_413 (by rfl) (rg_weak (L' := Lw i) (Nat.le_of_ble_eq_true rfl) lw_weak (kk _ _ _ hrel2))
def Op_data (Rel : Sg → Sg → Prop) : Prop := ∀ (σ τ : Sg) (a1 : Int) (a2 : Int) (a3 : Int) (a4 : Int) (a5 : Int), Rel σ τ → inR a1 → inR a2 → inR a3 → inR a4 → inR a5 → inRs σ → inRs τ → ∃ q r, F_X10_data a1 a2 a3 a4 a5 σ = some q ∧ F_X11_data a1 a2 a3 a4 a5 τ = some r ∧ Ag [(0, 1), (1, 2), (2, 3)] q.1 r.1 (r.2 0 0) ∧ Rel q.2 r.2
theorem lnh_data : Cond.methodLink (ownN 12) 118 yL_data ∈ TB := tb_at 593 (by decide +kernel) (by decide +kernel)
set_option maxHeartbeats 4000000 in
theorem lc_data (Rel : Sg → Sg → Prop) (h : Op_data Rel) (hC : Cx 12 code 7 false p s m args meth c (AL s) D cI cZ) (hK : KO D cI cZ cJ s) (hT : TH (AL s) s s.heap) (hl : l.stackTraces = false) {xs : Nat → Int32} {L9 : Nat} {i : Int} (hX : va_X b L9 xs s s.heap) (hbl : b < s.heap.size) (hi : 0 ≤ i) (hi5 : i + 5 < L9) (hL9 : L9 ≤ 3072) (hRf : 401 ≤ R.frames) (hRl : 16039 ≤ R.locals) (hkc : kc + 1 ≤ R.cells) (hks : ks + 6 ≤ R.slots) (hrel : Rel σ τ) (kk : ∀ (σ' τ' : Sg) (ov' : Int), Rel σ' τ' → Rg p l e R s m args below meth c (PwL D cI cZ cJ s ax am ao b σ' τ' ov') (kc + 1) (ks + 6) Q 7 2081 (Lw i) []) : Rg p l e R s m args below meth c (PwL D cI cZ cJ s ax am ao b σ τ ov) kc ks Q 7 416 (Lw i) [] := by
  refine rl_inR (fun hrs hrt => ?_)
  obtain ⟨q, r, hq, hr, hag, hrel2⟩ := h σ τ ((xs (i + (1 : Nat)).toNat).toInt) ((xs (i + (2 : Nat)).toNat).toInt) ((xs (i + (3 : Nat)).toNat).toInt) ((xs (i + (4 : Nat)).toNat).toInt) ((xs (i + (5 : Nat)).toNat).toInt) hrel (i32_toInt_in _) (i32_toInt_in _) (i32_toInt_in _) (i32_toInt_in _) (i32_toInt_in _) hrs hrt
  obtain ⟨ov2, hkw, hov, hin⟩ := ag_kw (ov := ov) hag
  refine rg_aload_n ⟨hC.1, hC.2.1⟩ dl_416 rfl ?_
  refine rl_arg (j := 1) hC hX hbl hi hi5 hL9 (by decide) rfl rfl (by decide +kernel : argOK code 417 1 = true) ?_
  refine rl_arg (j := 2) hC hX hbl hi hi5 hL9 (by decide) rfl rfl (by decide +kernel : argOK code 423 2 = true) ?_
  refine rl_arg (j := 3) hC hX hbl hi hi5 hL9 (by decide) rfl rfl (by decide +kernel : argOK code 429 3 = true) ?_
  refine rl_arg (j := 4) hC hX hbl hi hi5 hL9 (by decide) rfl rfl (by decide +kernel : argOK code 435 4 = true) ?_
  refine rl_arg (j := 5) hC hX hbl hi hi5 hL9 (by decide) rfl rfl (by decide +kernel : argOK code 441 5 = true) ?_
  refine rg_aload_n ⟨hC.1, hC.2.1⟩ dl_447 rfl ?_
  refine rl_help (n := 7) (d1 := 400) (vs := [(xs (i + (1 : Nat)).toNat).toInt, (xs (i + (2 : Nat)).toNat).toInt, (xs (i + (3 : Nat)).toNat).toInt, (xs (i + (4 : Nat)).toNat).toInt, (xs (i + (5 : Nat)).toNat).toInt]) (k := r.2 0 0) (σ' := q.2) (ov' := ov2) hC hK hT hRf hRl dl_448 lnh_data cw_data sw_data inL (by decide) ⟨by decide, by decide, by decide +kernel⟩ rfl (Nat.le_of_ble_eq_true rfl) hkc hks (wc_data l hl 400 (by omega) ((xs (i + (1 : Nat)).toNat).toInt) ((xs (i + (2 : Nat)).toNat).toInt) ((xs (i + (3 : Nat)).toNat).toInt) ((xs (i + (4 : Nat)).toNat).toInt) ((xs (i + (5 : Nat)).toNat).toInt) σ ov _ _ q hq hkw) ?_ hin _ rfl
  refine rg_istore ⟨hC.1, hC.2.1⟩ dl_451 (Nat.le_of_ble_eq_true rfl) ?_
  refine rg_aload_n ⟨hC.1, hC.2.1⟩ dl_453 rfl ?_
  refine rl_arg (j := 1) hC hX hbl hi hi5 hL9 (by decide) rfl rfl (by decide +kernel : argOK code 454 1 = true) ?_
  refine rl_arg (j := 2) hC hX hbl hi hi5 hL9 (by decide) rfl rfl (by decide +kernel : argOK code 460 2 = true) ?_
  refine rl_arg (j := 3) hC hX hbl hi hi5 hL9 (by decide) rfl rfl (by decide +kernel : argOK code 466 3 = true) ?_
  refine rl_arg (j := 4) hC hX hbl hi hi5 hL9 (by decide) rfl rfl (by decide +kernel : argOK code 472 4 = true) ?_
  refine rl_arg (j := 5) hC hX hbl hi hi5 hL9 (by decide) rfl rfl (by decide +kernel : argOK code 478 5 = true) ?_
  refine rl_m (M1 := m_X11_data) (vs := [(xs (i + (1 : Nat)).toNat).toInt, (xs (i + (2 : Nat)).toNat).toInt, (xs (i + (3 : Nat)).toNat).toInt, (xs (i + (4 : Nat)).toNat).toInt, (xs (i + (5 : Nat)).toNat).toInt]) (d1 := 400) hC hRf hRl dl_484 ln_12_120 im_X11_data mk_X11_data rfl rfl (Nat.le_of_ble_eq_true rfl) hkc hks (lk_X11_data l 400 (by omega) ((xs (i + (1 : Nat)).toNat).toInt) ((xs (i + (2 : Nat)).toNat).toInt) ((xs (i + (3 : Nat)).toNat).toInt) ((xs (i + (4 : Nat)).toNat).toInt) ((xs (i + (5 : Nat)).toNat).toInt) τ r hr) ?_ _ rfl
  refine rg_istore ⟨hC.1, hC.2.1⟩ dl_487 (Nat.le_of_ble_eq_true rfl) ?_
  refine rg_aload_n ⟨hC.1, hC.2.1⟩ dl_489 rfl ?_
  refine rl_m (M1 := m_X11_thrown) (vs := []) (d1 := 400) hC hRf hRl dl_490 ln_12_107 im_X11_thrown mk_X11_thrown rfl rfl (Nat.le_of_ble_eq_true rfl) hkc hks (lk_X11_thrown l 400 (by omega) r.2 _ rfl) ?_ _ rfl
  refine rg_iload ⟨hC.1, hC.2.1⟩ dl_493 rfl ?_
  refine rg_icmp_eq ⟨hC.1, hC.2.1⟩ dl_495 (by rfl) (fun _ => ?_) (fun h9 => absurd rfl h9)
  refine rg_iload ⟨hC.1, hC.2.1⟩ dl_500 rfl ?_
  refine rg_if_ne ⟨hC.1, hC.2.1⟩ dl_502 (by rfl) (fun _ => ?_) (fun h0 => ?_)
  · exact rg_goto ⟨hC.1, hC.2.1⟩ dl_517 (by rfl) (rg_weak (L' := Lw i) (Nat.le_of_ble_eq_true rfl) lw_weak (kk _ _ _ hrel2))
  · refine rg_aload_n ⟨hC.1, hC.2.1⟩ dl_505 rfl ?_
    refine rg_iconst ⟨hC.1, hC.2.1⟩ dl_506 in0 ?_
    obtain rfl := hov h0
    refine rl_cmp (tgt := 517) hC hK dl_507 dl_508 rfl dl_510 dl_511 dl_512 (by rfl) ?_
    exact rg_goto ⟨hC.1, hC.2.1⟩ dl_517 (by rfl) (rg_weak (L' := Lw i) (Nat.le_of_ble_eq_true rfl) lw_weak (kk _ _ _ hrel2))
def Op_any (Rel : Sg → Sg → Prop) : Prop := ∀ (σ τ : Sg) , Rel σ τ →  inRs σ → inRs τ → ∃ q r, F_X10_any  σ = some q ∧ F_X11_any  τ = some r ∧ Ag [(2, 1)] q.1 r.1 (r.2 0 0) ∧ Rel q.2 r.2
theorem lnh_any : Cond.methodLink (ownN 12) 121 yL_any ∈ TB := tb_at 623 (by decide +kernel) (by decide +kernel)
set_option maxHeartbeats 4000000 in
theorem lc_any (Rel : Sg → Sg → Prop) (h : Op_any Rel) (hC : Cx 12 code 7 false p s m args meth c (AL s) D cI cZ) (hK : KO D cI cZ cJ s) (hT : TH (AL s) s s.heap) (hl : l.stackTraces = false) {xs : Nat → Int32} {L9 : Nat} {i : Int} (hX : va_X b L9 xs s s.heap) (hbl : b < s.heap.size) (hi : 0 ≤ i) (hi5 : i + 5 < L9) (hL9 : L9 ≤ 3072) (hRf : 401 ≤ R.frames) (hRl : 16039 ≤ R.locals) (hkc : kc + 1 ≤ R.cells) (hks : ks + 6 ≤ R.slots) (hrel : Rel σ τ) (kk : ∀ (σ' τ' : Sg) (ov' : Int), Rel σ' τ' → Rg p l e R s m args below meth c (PwL D cI cZ cJ s ax am ao b σ' τ' ov') (kc + 1) (ks + 6) Q 7 2081 (Lw i) []) : Rg p l e R s m args below meth c (PwL D cI cZ cJ s ax am ao b σ τ ov) kc ks Q 7 520 (Lw i) [] := by
  refine rl_inR (fun hrs hrt => ?_)
  obtain ⟨q, r, hq, hr, hag, hrel2⟩ := h σ τ  hrel  hrs hrt
  obtain ⟨ov2, hkw, hov, hin⟩ := ag_kw (ov := ov) hag
  refine rg_aload_n ⟨hC.1, hC.2.1⟩ dl_520 rfl ?_
  refine rg_aload_n ⟨hC.1, hC.2.1⟩ dl_521 rfl ?_
  refine rl_help (n := 2) (d1 := 400) (vs := []) (k := r.2 0 0) (σ' := q.2) (ov' := ov2) hC hK hT hRf hRl dl_522 lnh_any cw_any sw_any inL (by decide) ⟨by decide, by decide, by decide +kernel⟩ rfl (Nat.le_of_ble_eq_true rfl) hkc hks (wc_any l hl 400 (by omega)  σ ov _ _ q hq hkw) ?_ hin _ rfl
  refine rg_istore ⟨hC.1, hC.2.1⟩ dl_525 (Nat.le_of_ble_eq_true rfl) ?_
  refine rg_aload_n ⟨hC.1, hC.2.1⟩ dl_527 rfl ?_
  refine rl_m (M1 := m_X11_any) (vs := []) (d1 := 400) hC hRf hRl dl_528 ln_12_124 im_X11_any mk_X11_any rfl rfl (Nat.le_of_ble_eq_true rfl) hkc hks (lk_X11_any l 400 (by omega)  τ r hr) ?_ _ rfl
  refine rg_istore ⟨hC.1, hC.2.1⟩ dl_531 (Nat.le_of_ble_eq_true rfl) ?_
  refine rg_aload_n ⟨hC.1, hC.2.1⟩ dl_533 rfl ?_
  refine rl_m (M1 := m_X11_thrown) (vs := []) (d1 := 400) hC hRf hRl dl_534 ln_12_107 im_X11_thrown mk_X11_thrown rfl rfl (Nat.le_of_ble_eq_true rfl) hkc hks (lk_X11_thrown l 400 (by omega) r.2 _ rfl) ?_ _ rfl
  refine rg_iload ⟨hC.1, hC.2.1⟩ dl_537 rfl ?_
  refine rg_icmp_eq ⟨hC.1, hC.2.1⟩ dl_539 (by rfl) (fun _ => ?_) (fun h9 => absurd rfl h9)
  refine rg_iload ⟨hC.1, hC.2.1⟩ dl_544 rfl ?_
  refine rg_if_ne ⟨hC.1, hC.2.1⟩ dl_546 (by rfl) (fun _ => ?_) (fun h0 => ?_)
  · exact rg_goto ⟨hC.1, hC.2.1⟩ dl_561 (by rfl) (rg_weak (L' := Lw i) (Nat.le_of_ble_eq_true rfl) lw_weak (kk _ _ _ hrel2))
  · refine rg_aload_n ⟨hC.1, hC.2.1⟩ dl_549 rfl ?_
    refine rg_iconst ⟨hC.1, hC.2.1⟩ dl_550 in0 ?_
    obtain rfl := hov h0
    refine rl_cmp (tgt := 561) hC hK dl_551 dl_552 rfl dl_554 dl_555 dl_556 (by rfl) ?_
    exact rg_goto ⟨hC.1, hC.2.1⟩ dl_561 (by rfl) (rg_weak (L' := Lw i) (Nat.le_of_ble_eq_true rfl) lw_weak (kk _ _ _ hrel2))
def Op_name (Rel : Sg → Sg → Prop) : Prop := ∀ (σ τ : Sg) (a1 : Int) (a2 : Int), Rel σ τ → inR a1 → inR a2 → inRs σ → inRs τ → ∃ q r, F_X10_name a1 a2 σ = some q ∧ F_X11_name a1 a2 τ = some r ∧ Ag [(0, 1), (1, 2), (2, 3)] q.1 r.1 (r.2 0 0) ∧ Rel q.2 r.2
theorem lnh_name : Cond.methodLink (ownN 12) 125 yL_name ∈ TB := tb_at 698 (by decide +kernel) (by decide +kernel)
set_option maxHeartbeats 4000000 in
theorem lc_name (Rel : Sg → Sg → Prop) (h : Op_name Rel) (hC : Cx 12 code 7 false p s m args meth c (AL s) D cI cZ) (hK : KO D cI cZ cJ s) (hT : TH (AL s) s s.heap) (hl : l.stackTraces = false) {xs : Nat → Int32} {L9 : Nat} {i : Int} (hX : va_X b L9 xs s s.heap) (hbl : b < s.heap.size) (hi : 0 ≤ i) (hi5 : i + 5 < L9) (hL9 : L9 ≤ 3072) (hRf : 401 ≤ R.frames) (hRl : 16039 ≤ R.locals) (hkc : kc + 1 ≤ R.cells) (hks : ks + 6 ≤ R.slots) (hrel : Rel σ τ) (kk : ∀ (σ' τ' : Sg) (ov' : Int), Rel σ' τ' → Rg p l e R s m args below meth c (PwL D cI cZ cJ s ax am ao b σ' τ' ov') (kc + 1) (ks + 6) Q 7 2081 (Lw i) []) : Rg p l e R s m args below meth c (PwL D cI cZ cJ s ax am ao b σ τ ov) kc ks Q 7 564 (Lw i) [] := by
  refine rl_inR (fun hrs hrt => ?_)
  obtain ⟨q, r, hq, hr, hag, hrel2⟩ := h σ τ ((xs (i + (1 : Nat)).toNat).toInt) ((xs (i + (2 : Nat)).toNat).toInt) hrel (i32_toInt_in _) (i32_toInt_in _) hrs hrt
  obtain ⟨ov2, hkw, hov, hin⟩ := ag_kw (ov := ov) hag
  refine rg_aload_n ⟨hC.1, hC.2.1⟩ dl_564 rfl ?_
  refine rl_arg (j := 1) hC hX hbl hi hi5 hL9 (by decide) rfl rfl (by decide +kernel : argOK code 565 1 = true) ?_
  refine rl_arg (j := 2) hC hX hbl hi hi5 hL9 (by decide) rfl rfl (by decide +kernel : argOK code 571 2 = true) ?_
  refine rg_aload_n ⟨hC.1, hC.2.1⟩ dl_577 rfl ?_
  refine rl_help (n := 4) (d1 := 400) (vs := [(xs (i + (1 : Nat)).toNat).toInt, (xs (i + (2 : Nat)).toNat).toInt]) (k := r.2 0 0) (σ' := q.2) (ov' := ov2) hC hK hT hRf hRl dl_578 lnh_name cw_name sw_name inL (by decide) ⟨by decide, by decide, by decide +kernel⟩ rfl (Nat.le_of_ble_eq_true rfl) hkc hks (wc_name l hl 400 (by omega) ((xs (i + (1 : Nat)).toNat).toInt) ((xs (i + (2 : Nat)).toNat).toInt) σ ov _ _ q hq hkw) ?_ hin _ rfl
  refine rg_istore ⟨hC.1, hC.2.1⟩ dl_581 (Nat.le_of_ble_eq_true rfl) ?_
  refine rg_aload_n ⟨hC.1, hC.2.1⟩ dl_583 rfl ?_
  refine rl_arg (j := 1) hC hX hbl hi hi5 hL9 (by decide) rfl rfl (by decide +kernel : argOK code 584 1 = true) ?_
  refine rl_arg (j := 2) hC hX hbl hi hi5 hL9 (by decide) rfl rfl (by decide +kernel : argOK code 590 2 = true) ?_
  refine rl_m (M1 := m_X11_name) (vs := [(xs (i + (1 : Nat)).toNat).toInt, (xs (i + (2 : Nat)).toNat).toInt]) (d1 := 400) hC hRf hRl dl_596 ln_12_128 im_X11_name mk_X11_name rfl rfl (Nat.le_of_ble_eq_true rfl) hkc hks (lk_X11_name l 400 (by omega) ((xs (i + (1 : Nat)).toNat).toInt) ((xs (i + (2 : Nat)).toNat).toInt) τ r hr) ?_ _ rfl
  refine rg_istore ⟨hC.1, hC.2.1⟩ dl_599 (Nat.le_of_ble_eq_true rfl) ?_
  refine rg_aload_n ⟨hC.1, hC.2.1⟩ dl_601 rfl ?_
  refine rl_m (M1 := m_X11_thrown) (vs := []) (d1 := 400) hC hRf hRl dl_602 ln_12_107 im_X11_thrown mk_X11_thrown rfl rfl (Nat.le_of_ble_eq_true rfl) hkc hks (lk_X11_thrown l 400 (by omega) r.2 _ rfl) ?_ _ rfl
  refine rg_iload ⟨hC.1, hC.2.1⟩ dl_605 rfl ?_
  refine rg_icmp_eq ⟨hC.1, hC.2.1⟩ dl_607 (by rfl) (fun _ => ?_) (fun h9 => absurd rfl h9)
  refine rg_iload ⟨hC.1, hC.2.1⟩ dl_612 rfl ?_
  refine rg_if_ne ⟨hC.1, hC.2.1⟩ dl_614 (by rfl) (fun _ => ?_) (fun h0 => ?_)
  · exact rg_goto ⟨hC.1, hC.2.1⟩ dl_629 (by rfl) (rg_weak (L' := Lw i) (Nat.le_of_ble_eq_true rfl) lw_weak (kk _ _ _ hrel2))
  · refine rg_aload_n ⟨hC.1, hC.2.1⟩ dl_617 rfl ?_
    refine rg_iconst ⟨hC.1, hC.2.1⟩ dl_618 in0 ?_
    obtain rfl := hov h0
    refine rl_cmp (tgt := 629) hC hK dl_619 dl_620 rfl dl_622 dl_623 dl_624 (by rfl) ?_
    exact rg_goto ⟨hC.1, hC.2.1⟩ dl_629 (by rfl) (rg_weak (L' := Lw i) (Nat.le_of_ble_eq_true rfl) lw_weak (kk _ _ _ hrel2))
def Op_range (Rel : Sg → Sg → Prop) : Prop := ∀ (σ τ : Sg) (a1 : Int) (a2 : Int), Rel σ τ → inR a1 → inR a2 → inRs σ → inRs τ → ∃ q r, F_X10_range a1 a2 σ = some q ∧ F_X11_range a1 a2 τ = some r ∧ Ag [(1, 1), (2, 2)] q.1 r.1 (r.2 0 0) ∧ Rel q.2 r.2
theorem lnh_range : Cond.methodLink (ownN 12) 129 yL_range ∈ TB := tb_at 725 (by decide +kernel) (by decide +kernel)
set_option maxHeartbeats 4000000 in
theorem lc_range (Rel : Sg → Sg → Prop) (h : Op_range Rel) (hC : Cx 12 code 7 false p s m args meth c (AL s) D cI cZ) (hK : KO D cI cZ cJ s) (hT : TH (AL s) s s.heap) (hl : l.stackTraces = false) {xs : Nat → Int32} {L9 : Nat} {i : Int} (hX : va_X b L9 xs s s.heap) (hbl : b < s.heap.size) (hi : 0 ≤ i) (hi5 : i + 5 < L9) (hL9 : L9 ≤ 3072) (hRf : 401 ≤ R.frames) (hRl : 16039 ≤ R.locals) (hkc : kc + 1 ≤ R.cells) (hks : ks + 6 ≤ R.slots) (hrel : Rel σ τ) (kk : ∀ (σ' τ' : Sg) (ov' : Int), Rel σ' τ' → Rg p l e R s m args below meth c (PwL D cI cZ cJ s ax am ao b σ' τ' ov') (kc + 1) (ks + 6) Q 7 2081 (Lw i) []) : Rg p l e R s m args below meth c (PwL D cI cZ cJ s ax am ao b σ τ ov) kc ks Q 7 632 (Lw i) [] := by
  refine rl_inR (fun hrs hrt => ?_)
  obtain ⟨q, r, hq, hr, hag, hrel2⟩ := h σ τ ((xs (i + (1 : Nat)).toNat).toInt) ((xs (i + (2 : Nat)).toNat).toInt) hrel (i32_toInt_in _) (i32_toInt_in _) hrs hrt
  obtain ⟨ov2, hkw, hov, hin⟩ := ag_kw (ov := ov) hag
  refine rg_aload_n ⟨hC.1, hC.2.1⟩ dl_632 rfl ?_
  refine rl_arg (j := 1) hC hX hbl hi hi5 hL9 (by decide) rfl rfl (by decide +kernel : argOK code 633 1 = true) ?_
  refine rl_arg (j := 2) hC hX hbl hi hi5 hL9 (by decide) rfl rfl (by decide +kernel : argOK code 639 2 = true) ?_
  refine rg_aload_n ⟨hC.1, hC.2.1⟩ dl_645 rfl ?_
  refine rl_help (n := 4) (d1 := 400) (vs := [(xs (i + (1 : Nat)).toNat).toInt, (xs (i + (2 : Nat)).toNat).toInt]) (k := r.2 0 0) (σ' := q.2) (ov' := ov2) hC hK hT hRf hRl dl_646 lnh_range cw_range sw_range inL (by decide) ⟨by decide, by decide, by decide +kernel⟩ rfl (Nat.le_of_ble_eq_true rfl) hkc hks (wc_range l hl 400 (by omega) ((xs (i + (1 : Nat)).toNat).toInt) ((xs (i + (2 : Nat)).toNat).toInt) σ ov _ _ q hq hkw) ?_ hin _ rfl
  refine rg_istore ⟨hC.1, hC.2.1⟩ dl_649 (Nat.le_of_ble_eq_true rfl) ?_
  refine rg_aload_n ⟨hC.1, hC.2.1⟩ dl_651 rfl ?_
  refine rl_arg (j := 1) hC hX hbl hi hi5 hL9 (by decide) rfl rfl (by decide +kernel : argOK code 652 1 = true) ?_
  refine rl_arg (j := 2) hC hX hbl hi hi5 hL9 (by decide) rfl rfl (by decide +kernel : argOK code 658 2 = true) ?_
  refine rl_m (M1 := m_X11_range) (vs := [(xs (i + (1 : Nat)).toNat).toInt, (xs (i + (2 : Nat)).toNat).toInt]) (d1 := 400) hC hRf hRl dl_664 ln_12_131 im_X11_range mk_X11_range rfl rfl (Nat.le_of_ble_eq_true rfl) hkc hks (lk_X11_range l 400 (by omega) ((xs (i + (1 : Nat)).toNat).toInt) ((xs (i + (2 : Nat)).toNat).toInt) τ r hr) ?_ _ rfl
  refine rg_istore ⟨hC.1, hC.2.1⟩ dl_667 (Nat.le_of_ble_eq_true rfl) ?_
  refine rg_aload_n ⟨hC.1, hC.2.1⟩ dl_669 rfl ?_
  refine rl_m (M1 := m_X11_thrown) (vs := []) (d1 := 400) hC hRf hRl dl_670 ln_12_107 im_X11_thrown mk_X11_thrown rfl rfl (Nat.le_of_ble_eq_true rfl) hkc hks (lk_X11_thrown l 400 (by omega) r.2 _ rfl) ?_ _ rfl
  refine rg_iload ⟨hC.1, hC.2.1⟩ dl_673 rfl ?_
  refine rg_icmp_eq ⟨hC.1, hC.2.1⟩ dl_675 (by rfl) (fun _ => ?_) (fun h9 => absurd rfl h9)
  refine rg_iload ⟨hC.1, hC.2.1⟩ dl_680 rfl ?_
  refine rg_if_ne ⟨hC.1, hC.2.1⟩ dl_682 (by rfl) (fun _ => ?_) (fun h0 => ?_)
  · exact rg_goto ⟨hC.1, hC.2.1⟩ dl_697 (by rfl) (rg_weak (L' := Lw i) (Nat.le_of_ble_eq_true rfl) lw_weak (kk _ _ _ hrel2))
  · refine rg_aload_n ⟨hC.1, hC.2.1⟩ dl_685 rfl ?_
    refine rg_iconst ⟨hC.1, hC.2.1⟩ dl_686 in0 ?_
    obtain rfl := hov h0
    refine rl_cmp (tgt := 697) hC hK dl_687 dl_688 rfl dl_690 dl_691 dl_692 (by rfl) ?_
    exact rg_goto ⟨hC.1, hC.2.1⟩ dl_697 (by rfl) (rg_weak (L' := Lw i) (Nat.le_of_ble_eq_true rfl) lw_weak (kk _ _ _ hrel2))
def Op_make (Rel : Sg → Sg → Prop) : Prop := ∀ (σ τ : Sg) (a1 : Int) (a2 : Int) (a3 : Int) (a4 : Int) (a5 : Int), Rel σ τ → inR a1 → inR a2 → inR a3 → inR a4 → inR a5 → inRs σ → inRs τ → ∃ q r, F_X10_make a1 a2 a3 a4 a5 σ = some q ∧ F_X11_make a1 a2 a3 a4 a5 τ = some r ∧ Ag [(0, 1), (1, 2), (2, 3)] q.1 r.1 (r.2 0 0) ∧ Rel q.2 r.2
theorem lnh_make : Cond.methodLink (ownN 12) 132 yL_make ∈ TB := tb_at 732 (by decide +kernel) (by decide +kernel)
set_option maxHeartbeats 4000000 in
theorem lc_make (Rel : Sg → Sg → Prop) (h : Op_make Rel) (hC : Cx 12 code 7 false p s m args meth c (AL s) D cI cZ) (hK : KO D cI cZ cJ s) (hT : TH (AL s) s s.heap) (hl : l.stackTraces = false) {xs : Nat → Int32} {L9 : Nat} {i : Int} (hX : va_X b L9 xs s s.heap) (hbl : b < s.heap.size) (hi : 0 ≤ i) (hi5 : i + 5 < L9) (hL9 : L9 ≤ 3072) (hRf : 401 ≤ R.frames) (hRl : 16039 ≤ R.locals) (hkc : kc + 1 ≤ R.cells) (hks : ks + 6 ≤ R.slots) (hrel : Rel σ τ) (kk : ∀ (σ' τ' : Sg) (ov' : Int), Rel σ' τ' → Rg p l e R s m args below meth c (PwL D cI cZ cJ s ax am ao b σ' τ' ov') (kc + 1) (ks + 6) Q 7 2081 (Lw i) []) : Rg p l e R s m args below meth c (PwL D cI cZ cJ s ax am ao b σ τ ov) kc ks Q 7 700 (Lw i) [] := by
  refine rl_inR (fun hrs hrt => ?_)
  obtain ⟨q, r, hq, hr, hag, hrel2⟩ := h σ τ ((xs (i + (1 : Nat)).toNat).toInt) ((xs (i + (2 : Nat)).toNat).toInt) ((xs (i + (3 : Nat)).toNat).toInt) ((xs (i + (4 : Nat)).toNat).toInt) ((xs (i + (5 : Nat)).toNat).toInt) hrel (i32_toInt_in _) (i32_toInt_in _) (i32_toInt_in _) (i32_toInt_in _) (i32_toInt_in _) hrs hrt
  obtain ⟨ov2, hkw, hov, hin⟩ := ag_kw (ov := ov) hag
  refine rg_aload_n ⟨hC.1, hC.2.1⟩ dl_700 rfl ?_
  refine rl_arg (j := 1) hC hX hbl hi hi5 hL9 (by decide) rfl rfl (by decide +kernel : argOK code 701 1 = true) ?_
  refine rl_arg (j := 2) hC hX hbl hi hi5 hL9 (by decide) rfl rfl (by decide +kernel : argOK code 707 2 = true) ?_
  refine rl_arg (j := 3) hC hX hbl hi hi5 hL9 (by decide) rfl rfl (by decide +kernel : argOK code 713 3 = true) ?_
  refine rl_arg (j := 4) hC hX hbl hi hi5 hL9 (by decide) rfl rfl (by decide +kernel : argOK code 719 4 = true) ?_
  refine rl_arg (j := 5) hC hX hbl hi hi5 hL9 (by decide) rfl rfl (by decide +kernel : argOK code 725 5 = true) ?_
  refine rg_aload_n ⟨hC.1, hC.2.1⟩ dl_731 rfl ?_
  refine rl_help (n := 7) (d1 := 400) (vs := [(xs (i + (1 : Nat)).toNat).toInt, (xs (i + (2 : Nat)).toNat).toInt, (xs (i + (3 : Nat)).toNat).toInt, (xs (i + (4 : Nat)).toNat).toInt, (xs (i + (5 : Nat)).toNat).toInt]) (k := r.2 0 0) (σ' := q.2) (ov' := ov2) hC hK hT hRf hRl dl_732 lnh_make cw_make sw_make inL (by decide) ⟨by decide, by decide, by decide +kernel⟩ rfl (Nat.le_of_ble_eq_true rfl) hkc hks (wc_make l hl 400 (by omega) ((xs (i + (1 : Nat)).toNat).toInt) ((xs (i + (2 : Nat)).toNat).toInt) ((xs (i + (3 : Nat)).toNat).toInt) ((xs (i + (4 : Nat)).toNat).toInt) ((xs (i + (5 : Nat)).toNat).toInt) σ ov _ _ q hq hkw) ?_ hin _ rfl
  refine rg_istore ⟨hC.1, hC.2.1⟩ dl_735 (Nat.le_of_ble_eq_true rfl) ?_
  refine rg_aload_n ⟨hC.1, hC.2.1⟩ dl_737 rfl ?_
  refine rl_arg (j := 1) hC hX hbl hi hi5 hL9 (by decide) rfl rfl (by decide +kernel : argOK code 738 1 = true) ?_
  refine rl_arg (j := 2) hC hX hbl hi hi5 hL9 (by decide) rfl rfl (by decide +kernel : argOK code 744 2 = true) ?_
  refine rl_arg (j := 3) hC hX hbl hi hi5 hL9 (by decide) rfl rfl (by decide +kernel : argOK code 750 3 = true) ?_
  refine rl_arg (j := 4) hC hX hbl hi hi5 hL9 (by decide) rfl rfl (by decide +kernel : argOK code 756 4 = true) ?_
  refine rl_arg (j := 5) hC hX hbl hi hi5 hL9 (by decide) rfl rfl (by decide +kernel : argOK code 762 5 = true) ?_
  refine rl_m (M1 := m_X11_make) (vs := [(xs (i + (1 : Nat)).toNat).toInt, (xs (i + (2 : Nat)).toNat).toInt, (xs (i + (3 : Nat)).toNat).toInt, (xs (i + (4 : Nat)).toNat).toInt, (xs (i + (5 : Nat)).toNat).toInt]) (d1 := 400) hC hRf hRl dl_768 ln_12_134 im_X11_make mk_X11_make rfl rfl (Nat.le_of_ble_eq_true rfl) hkc hks (lk_X11_make l 400 (by omega) ((xs (i + (1 : Nat)).toNat).toInt) ((xs (i + (2 : Nat)).toNat).toInt) ((xs (i + (3 : Nat)).toNat).toInt) ((xs (i + (4 : Nat)).toNat).toInt) ((xs (i + (5 : Nat)).toNat).toInt) τ r hr) ?_ _ rfl
  refine rg_istore ⟨hC.1, hC.2.1⟩ dl_771 (Nat.le_of_ble_eq_true rfl) ?_
  refine rg_aload_n ⟨hC.1, hC.2.1⟩ dl_773 rfl ?_
  refine rl_m (M1 := m_X11_thrown) (vs := []) (d1 := 400) hC hRf hRl dl_774 ln_12_107 im_X11_thrown mk_X11_thrown rfl rfl (Nat.le_of_ble_eq_true rfl) hkc hks (lk_X11_thrown l 400 (by omega) r.2 _ rfl) ?_ _ rfl
  refine rg_iload ⟨hC.1, hC.2.1⟩ dl_777 rfl ?_
  refine rg_icmp_eq ⟨hC.1, hC.2.1⟩ dl_779 (by rfl) (fun _ => ?_) (fun h9 => absurd rfl h9)
  refine rg_iload ⟨hC.1, hC.2.1⟩ dl_784 rfl ?_
  refine rg_if_ne ⟨hC.1, hC.2.1⟩ dl_786 (by rfl) (fun _ => ?_) (fun h0 => ?_)
  · exact rg_goto ⟨hC.1, hC.2.1⟩ dl_801 (by rfl) (rg_weak (L' := Lw i) (Nat.le_of_ble_eq_true rfl) lw_weak (kk _ _ _ hrel2))
  · refine rg_aload_n ⟨hC.1, hC.2.1⟩ dl_789 rfl ?_
    refine rg_iconst ⟨hC.1, hC.2.1⟩ dl_790 in0 ?_
    obtain rfl := hov h0
    refine rl_cmp (tgt := 801) hC hK dl_791 dl_792 rfl dl_794 dl_795 dl_796 (by rfl) ?_
    exact rg_goto ⟨hC.1, hC.2.1⟩ dl_801 (by rfl) (rg_weak (L' := Lw i) (Nat.le_of_ble_eq_true rfl) lw_weak (kk _ _ _ hrel2))
def Op_either (Rel : Sg → Sg → Prop) : Prop := ∀ (σ τ : Sg) (a1 : Int) (a2 : Int), Rel σ τ → inR a1 → inR a2 → inRs σ → inRs τ → ∃ q r, F_X10_either a1 a2 σ = some q ∧ F_X11_either a1 a2 τ = some r ∧ Ag [(0, 1), (1, 2), (2, 3)] q.1 r.1 (r.2 0 0) ∧ Rel q.2 r.2
theorem lnh_either : Cond.methodLink (ownN 12) 135 yL_either ∈ TB := tb_at 757 (by decide +kernel) (by decide +kernel)
set_option maxHeartbeats 4000000 in
theorem lc_either (Rel : Sg → Sg → Prop) (h : Op_either Rel) (hC : Cx 12 code 7 false p s m args meth c (AL s) D cI cZ) (hK : KO D cI cZ cJ s) (hT : TH (AL s) s s.heap) (hl : l.stackTraces = false) {xs : Nat → Int32} {L9 : Nat} {i : Int} (hX : va_X b L9 xs s s.heap) (hbl : b < s.heap.size) (hi : 0 ≤ i) (hi5 : i + 5 < L9) (hL9 : L9 ≤ 3072) (hRf : 401 ≤ R.frames) (hRl : 16039 ≤ R.locals) (hkc : kc + 1 ≤ R.cells) (hks : ks + 6 ≤ R.slots) (hrel : Rel σ τ) (kk : ∀ (σ' τ' : Sg) (ov' : Int), Rel σ' τ' → Rg p l e R s m args below meth c (PwL D cI cZ cJ s ax am ao b σ' τ' ov') (kc + 1) (ks + 6) Q 7 2081 (Lw i) []) : Rg p l e R s m args below meth c (PwL D cI cZ cJ s ax am ao b σ τ ov) kc ks Q 7 804 (Lw i) [] := by
  refine rl_inR (fun hrs hrt => ?_)
  obtain ⟨q, r, hq, hr, hag, hrel2⟩ := h σ τ ((xs (i + (1 : Nat)).toNat).toInt) ((xs (i + (2 : Nat)).toNat).toInt) hrel (i32_toInt_in _) (i32_toInt_in _) hrs hrt
  obtain ⟨ov2, hkw, hov, hin⟩ := ag_kw (ov := ov) hag
  refine rg_aload_n ⟨hC.1, hC.2.1⟩ dl_804 rfl ?_
  refine rl_arg (j := 1) hC hX hbl hi hi5 hL9 (by decide) rfl rfl (by decide +kernel : argOK code 805 1 = true) ?_
  refine rl_arg (j := 2) hC hX hbl hi hi5 hL9 (by decide) rfl rfl (by decide +kernel : argOK code 811 2 = true) ?_
  refine rg_aload_n ⟨hC.1, hC.2.1⟩ dl_817 rfl ?_
  refine rl_help (n := 4) (d1 := 400) (vs := [(xs (i + (1 : Nat)).toNat).toInt, (xs (i + (2 : Nat)).toNat).toInt]) (k := r.2 0 0) (σ' := q.2) (ov' := ov2) hC hK hT hRf hRl dl_818 lnh_either cw_either sw_either inL (by decide) ⟨by decide, by decide, by decide +kernel⟩ rfl (Nat.le_of_ble_eq_true rfl) hkc hks (wc_either l hl 400 (by omega) ((xs (i + (1 : Nat)).toNat).toInt) ((xs (i + (2 : Nat)).toNat).toInt) σ ov _ _ q hq hkw) ?_ hin _ rfl
  refine rg_istore ⟨hC.1, hC.2.1⟩ dl_821 (Nat.le_of_ble_eq_true rfl) ?_
  refine rg_aload_n ⟨hC.1, hC.2.1⟩ dl_823 rfl ?_
  refine rl_arg (j := 1) hC hX hbl hi hi5 hL9 (by decide) rfl rfl (by decide +kernel : argOK code 824 1 = true) ?_
  refine rl_arg (j := 2) hC hX hbl hi hi5 hL9 (by decide) rfl rfl (by decide +kernel : argOK code 830 2 = true) ?_
  refine rl_m (M1 := m_X11_either) (vs := [(xs (i + (1 : Nat)).toNat).toInt, (xs (i + (2 : Nat)).toNat).toInt]) (d1 := 400) hC hRf hRl dl_836 ln_12_137 im_X11_either mk_X11_either rfl rfl (Nat.le_of_ble_eq_true rfl) hkc hks (lk_X11_either l 400 (by omega) ((xs (i + (1 : Nat)).toNat).toInt) ((xs (i + (2 : Nat)).toNat).toInt) τ r hr) ?_ _ rfl
  refine rg_istore ⟨hC.1, hC.2.1⟩ dl_839 (Nat.le_of_ble_eq_true rfl) ?_
  refine rg_aload_n ⟨hC.1, hC.2.1⟩ dl_841 rfl ?_
  refine rl_m (M1 := m_X11_thrown) (vs := []) (d1 := 400) hC hRf hRl dl_842 ln_12_107 im_X11_thrown mk_X11_thrown rfl rfl (Nat.le_of_ble_eq_true rfl) hkc hks (lk_X11_thrown l 400 (by omega) r.2 _ rfl) ?_ _ rfl
  refine rg_iload ⟨hC.1, hC.2.1⟩ dl_845 rfl ?_
  refine rg_icmp_eq ⟨hC.1, hC.2.1⟩ dl_847 (by rfl) (fun _ => ?_) (fun h9 => absurd rfl h9)
  refine rg_iload ⟨hC.1, hC.2.1⟩ dl_852 rfl ?_
  refine rg_if_ne ⟨hC.1, hC.2.1⟩ dl_854 (by rfl) (fun _ => ?_) (fun h0 => ?_)
  · exact rg_goto ⟨hC.1, hC.2.1⟩ dl_869 (by rfl) (rg_weak (L' := Lw i) (Nat.le_of_ble_eq_true rfl) lw_weak (kk _ _ _ hrel2))
  · refine rg_aload_n ⟨hC.1, hC.2.1⟩ dl_857 rfl ?_
    refine rg_iconst ⟨hC.1, hC.2.1⟩ dl_858 in0 ?_
    obtain rfl := hov h0
    refine rl_cmp (tgt := 869) hC hK dl_859 dl_860 rfl dl_862 dl_863 dl_864 (by rfl) ?_
    exact rg_goto ⟨hC.1, hC.2.1⟩ dl_869 (by rfl) (rg_weak (L' := Lw i) (Nat.le_of_ble_eq_true rfl) lw_weak (kk _ _ _ hrel2))
def Op_view (Rel : Sg → Sg → Prop) : Prop := ∀ (σ τ : Sg) (a1 : Int) (a2 : Int), Rel σ τ → inR a1 → inR a2 → inRs σ → inRs τ → ∃ q r, F_X10_view a1 a2 σ = some q ∧ F_X11_view a1 a2 τ = some r ∧ Ag [(0, 1), (1, 2), (2, 3)] q.1 r.1 (r.2 0 0) ∧ Rel q.2 r.2
theorem lnh_view : Cond.methodLink (ownN 12) 138 yL_view ∈ TB := tb_at 773 (by decide +kernel) (by decide +kernel)
set_option maxHeartbeats 4000000 in
theorem lc_view (Rel : Sg → Sg → Prop) (h : Op_view Rel) (hC : Cx 12 code 7 false p s m args meth c (AL s) D cI cZ) (hK : KO D cI cZ cJ s) (hT : TH (AL s) s s.heap) (hl : l.stackTraces = false) {xs : Nat → Int32} {L9 : Nat} {i : Int} (hX : va_X b L9 xs s s.heap) (hbl : b < s.heap.size) (hi : 0 ≤ i) (hi5 : i + 5 < L9) (hL9 : L9 ≤ 3072) (hRf : 401 ≤ R.frames) (hRl : 16039 ≤ R.locals) (hkc : kc + 1 ≤ R.cells) (hks : ks + 6 ≤ R.slots) (hrel : Rel σ τ) (kk : ∀ (σ' τ' : Sg) (ov' : Int), Rel σ' τ' → Rg p l e R s m args below meth c (PwL D cI cZ cJ s ax am ao b σ' τ' ov') (kc + 1) (ks + 6) Q 7 2081 (Lw i) []) : Rg p l e R s m args below meth c (PwL D cI cZ cJ s ax am ao b σ τ ov) kc ks Q 7 872 (Lw i) [] := by
  refine rl_inR (fun hrs hrt => ?_)
  obtain ⟨q, r, hq, hr, hag, hrel2⟩ := h σ τ ((xs (i + (1 : Nat)).toNat).toInt) ((xs (i + (2 : Nat)).toNat).toInt) hrel (i32_toInt_in _) (i32_toInt_in _) hrs hrt
  obtain ⟨ov2, hkw, hov, hin⟩ := ag_kw (ov := ov) hag
  refine rg_aload_n ⟨hC.1, hC.2.1⟩ dl_872 rfl ?_
  refine rl_arg (j := 1) hC hX hbl hi hi5 hL9 (by decide) rfl rfl (by decide +kernel : argOK code 873 1 = true) ?_
  refine rl_arg (j := 2) hC hX hbl hi hi5 hL9 (by decide) rfl rfl (by decide +kernel : argOK code 879 2 = true) ?_
  refine rg_aload_n ⟨hC.1, hC.2.1⟩ dl_885 rfl ?_
  refine rl_help (n := 4) (d1 := 400) (vs := [(xs (i + (1 : Nat)).toNat).toInt, (xs (i + (2 : Nat)).toNat).toInt]) (k := r.2 0 0) (σ' := q.2) (ov' := ov2) hC hK hT hRf hRl dl_886 lnh_view cw_view sw_view inL (by decide) ⟨by decide, by decide, by decide +kernel⟩ rfl (Nat.le_of_ble_eq_true rfl) hkc hks (wc_view l hl 400 (by omega) ((xs (i + (1 : Nat)).toNat).toInt) ((xs (i + (2 : Nat)).toNat).toInt) σ ov _ _ q hq hkw) ?_ hin _ rfl
  refine rg_istore ⟨hC.1, hC.2.1⟩ dl_889 (Nat.le_of_ble_eq_true rfl) ?_
  refine rg_aload_n ⟨hC.1, hC.2.1⟩ dl_891 rfl ?_
  refine rl_arg (j := 1) hC hX hbl hi hi5 hL9 (by decide) rfl rfl (by decide +kernel : argOK code 892 1 = true) ?_
  refine rl_arg (j := 2) hC hX hbl hi hi5 hL9 (by decide) rfl rfl (by decide +kernel : argOK code 898 2 = true) ?_
  refine rl_m (M1 := m_X11_view) (vs := [(xs (i + (1 : Nat)).toNat).toInt, (xs (i + (2 : Nat)).toNat).toInt]) (d1 := 400) hC hRf hRl dl_904 ln_12_140 im_X11_view mk_X11_view rfl rfl (Nat.le_of_ble_eq_true rfl) hkc hks (lk_X11_view l 400 (by omega) ((xs (i + (1 : Nat)).toNat).toInt) ((xs (i + (2 : Nat)).toNat).toInt) τ r hr) ?_ _ rfl
  refine rg_istore ⟨hC.1, hC.2.1⟩ dl_907 (Nat.le_of_ble_eq_true rfl) ?_
  refine rg_aload_n ⟨hC.1, hC.2.1⟩ dl_909 rfl ?_
  refine rl_m (M1 := m_X11_thrown) (vs := []) (d1 := 400) hC hRf hRl dl_910 ln_12_107 im_X11_thrown mk_X11_thrown rfl rfl (Nat.le_of_ble_eq_true rfl) hkc hks (lk_X11_thrown l 400 (by omega) r.2 _ rfl) ?_ _ rfl
  refine rg_iload ⟨hC.1, hC.2.1⟩ dl_913 rfl ?_
  refine rg_icmp_eq ⟨hC.1, hC.2.1⟩ dl_915 (by rfl) (fun _ => ?_) (fun h9 => absurd rfl h9)
  refine rg_iload ⟨hC.1, hC.2.1⟩ dl_920 rfl ?_
  refine rg_if_ne ⟨hC.1, hC.2.1⟩ dl_922 (by rfl) (fun _ => ?_) (fun h0 => ?_)
  · exact rg_goto ⟨hC.1, hC.2.1⟩ dl_937 (by rfl) (rg_weak (L' := Lw i) (Nat.le_of_ble_eq_true rfl) lw_weak (kk _ _ _ hrel2))
  · refine rg_aload_n ⟨hC.1, hC.2.1⟩ dl_925 rfl ?_
    refine rg_iconst ⟨hC.1, hC.2.1⟩ dl_926 in0 ?_
    obtain rfl := hov h0
    refine rl_cmp (tgt := 937) hC hK dl_927 dl_928 rfl dl_930 dl_931 dl_932 (by rfl) ?_
    exact rg_goto ⟨hC.1, hC.2.1⟩ dl_937 (by rfl) (rg_weak (L' := Lw i) (Nat.le_of_ble_eq_true rfl) lw_weak (kk _ _ _ hrel2))
def Op_list (Rel : Sg → Sg → Prop) : Prop := ∀ (σ τ : Sg) (a1 : Int) (a2 : Int) (a3 : Int) (a4 : Int), Rel σ τ → inR a1 → inR a2 → inR a3 → inR a4 → inRs σ → inRs τ → ∃ q r, F_X10_list a1 a2 a3 a4 σ = some q ∧ F_X11_list a1 a2 a3 a4 τ = some r ∧ Ag [(0, 1), (1, 2), (2, 3)] q.1 r.1 (r.2 0 0) ∧ Rel q.2 r.2
theorem lnh_list : Cond.methodLink (ownN 12) 141 yL_list ∈ TB := tb_at 787 (by decide +kernel) (by decide +kernel)
set_option maxHeartbeats 4000000 in
theorem lc_list (Rel : Sg → Sg → Prop) (h : Op_list Rel) (hC : Cx 12 code 7 false p s m args meth c (AL s) D cI cZ) (hK : KO D cI cZ cJ s) (hT : TH (AL s) s s.heap) (hl : l.stackTraces = false) {xs : Nat → Int32} {L9 : Nat} {i : Int} (hX : va_X b L9 xs s s.heap) (hbl : b < s.heap.size) (hi : 0 ≤ i) (hi5 : i + 5 < L9) (hL9 : L9 ≤ 3072) (hRf : 401 ≤ R.frames) (hRl : 16039 ≤ R.locals) (hkc : kc + 1 ≤ R.cells) (hks : ks + 6 ≤ R.slots) (hrel : Rel σ τ) (kk : ∀ (σ' τ' : Sg) (ov' : Int), Rel σ' τ' → Rg p l e R s m args below meth c (PwL D cI cZ cJ s ax am ao b σ' τ' ov') (kc + 1) (ks + 6) Q 7 2081 (Lw i) []) : Rg p l e R s m args below meth c (PwL D cI cZ cJ s ax am ao b σ τ ov) kc ks Q 7 940 (Lw i) [] := by
  refine rl_inR (fun hrs hrt => ?_)
  obtain ⟨q, r, hq, hr, hag, hrel2⟩ := h σ τ ((xs (i + (1 : Nat)).toNat).toInt) ((xs (i + (2 : Nat)).toNat).toInt) ((xs (i + (3 : Nat)).toNat).toInt) ((xs (i + (4 : Nat)).toNat).toInt) hrel (i32_toInt_in _) (i32_toInt_in _) (i32_toInt_in _) (i32_toInt_in _) hrs hrt
  obtain ⟨ov2, hkw, hov, hin⟩ := ag_kw (ov := ov) hag
  refine rg_aload_n ⟨hC.1, hC.2.1⟩ dl_940 rfl ?_
  refine rl_arg (j := 1) hC hX hbl hi hi5 hL9 (by decide) rfl rfl (by decide +kernel : argOK code 941 1 = true) ?_
  refine rl_arg (j := 2) hC hX hbl hi hi5 hL9 (by decide) rfl rfl (by decide +kernel : argOK code 947 2 = true) ?_
  refine rl_arg (j := 3) hC hX hbl hi hi5 hL9 (by decide) rfl rfl (by decide +kernel : argOK code 953 3 = true) ?_
  refine rl_arg (j := 4) hC hX hbl hi hi5 hL9 (by decide) rfl rfl (by decide +kernel : argOK code 959 4 = true) ?_
  refine rg_aload_n ⟨hC.1, hC.2.1⟩ dl_965 rfl ?_
  refine rl_help (n := 6) (d1 := 400) (vs := [(xs (i + (1 : Nat)).toNat).toInt, (xs (i + (2 : Nat)).toNat).toInt, (xs (i + (3 : Nat)).toNat).toInt, (xs (i + (4 : Nat)).toNat).toInt]) (k := r.2 0 0) (σ' := q.2) (ov' := ov2) hC hK hT hRf hRl dl_966 lnh_list cw_list sw_list inL (by decide) ⟨by decide, by decide, by decide +kernel⟩ rfl (Nat.le_of_ble_eq_true rfl) hkc hks (wc_list l hl 400 (by omega) ((xs (i + (1 : Nat)).toNat).toInt) ((xs (i + (2 : Nat)).toNat).toInt) ((xs (i + (3 : Nat)).toNat).toInt) ((xs (i + (4 : Nat)).toNat).toInt) σ ov _ _ q hq hkw) ?_ hin _ rfl
  refine rg_istore ⟨hC.1, hC.2.1⟩ dl_969 (Nat.le_of_ble_eq_true rfl) ?_
  refine rg_aload_n ⟨hC.1, hC.2.1⟩ dl_971 rfl ?_
  refine rl_arg (j := 1) hC hX hbl hi hi5 hL9 (by decide) rfl rfl (by decide +kernel : argOK code 972 1 = true) ?_
  refine rl_arg (j := 2) hC hX hbl hi hi5 hL9 (by decide) rfl rfl (by decide +kernel : argOK code 978 2 = true) ?_
  refine rl_arg (j := 3) hC hX hbl hi hi5 hL9 (by decide) rfl rfl (by decide +kernel : argOK code 984 3 = true) ?_
  refine rl_arg (j := 4) hC hX hbl hi hi5 hL9 (by decide) rfl rfl (by decide +kernel : argOK code 990 4 = true) ?_
  refine rl_m (M1 := m_X11_list) (vs := [(xs (i + (1 : Nat)).toNat).toInt, (xs (i + (2 : Nat)).toNat).toInt, (xs (i + (3 : Nat)).toNat).toInt, (xs (i + (4 : Nat)).toNat).toInt]) (d1 := 400) hC hRf hRl dl_996 ln_12_143 im_X11_list mk_X11_list rfl rfl (Nat.le_of_ble_eq_true rfl) hkc hks (lk_X11_list l 400 (by omega) ((xs (i + (1 : Nat)).toNat).toInt) ((xs (i + (2 : Nat)).toNat).toInt) ((xs (i + (3 : Nat)).toNat).toInt) ((xs (i + (4 : Nat)).toNat).toInt) τ r hr) ?_ _ rfl
  refine rg_istore ⟨hC.1, hC.2.1⟩ dl_999 (Nat.le_of_ble_eq_true rfl) ?_
  refine rg_aload_n ⟨hC.1, hC.2.1⟩ dl_1001 rfl ?_
  refine rl_m (M1 := m_X11_thrown) (vs := []) (d1 := 400) hC hRf hRl dl_1002 ln_12_107 im_X11_thrown mk_X11_thrown rfl rfl (Nat.le_of_ble_eq_true rfl) hkc hks (lk_X11_thrown l 400 (by omega) r.2 _ rfl) ?_ _ rfl
  refine rg_iload ⟨hC.1, hC.2.1⟩ dl_1005 rfl ?_
  refine rg_icmp_eq ⟨hC.1, hC.2.1⟩ dl_1007 (by rfl) (fun _ => ?_) (fun h9 => absurd rfl h9)
  refine rg_iload ⟨hC.1, hC.2.1⟩ dl_1012 rfl ?_
  refine rg_if_ne ⟨hC.1, hC.2.1⟩ dl_1014 (by rfl) (fun _ => ?_) (fun h0 => ?_)
  · exact rg_goto ⟨hC.1, hC.2.1⟩ dl_1029 (by rfl) (rg_weak (L' := Lw i) (Nat.le_of_ble_eq_true rfl) lw_weak (kk _ _ _ hrel2))
  · refine rg_aload_n ⟨hC.1, hC.2.1⟩ dl_1017 rfl ?_
    refine rg_iconst ⟨hC.1, hC.2.1⟩ dl_1018 in0 ?_
    obtain rfl := hov h0
    refine rl_cmp (tgt := 1029) hC hK dl_1019 dl_1020 rfl dl_1022 dl_1023 dl_1024 (by rfl) ?_
    exact rg_goto ⟨hC.1, hC.2.1⟩ dl_1029 (by rfl) (rg_weak (L' := Lw i) (Nat.le_of_ble_eq_true rfl) lw_weak (kk _ _ _ hrel2))
def Op_setView (Rel : Sg → Sg → Prop) : Prop := ∀ (σ τ : Sg) (a1 : Int) (a2 : Int) (a3 : Int) (a4 : Int) (a5 : Int), Rel σ τ → inR a1 → inR a2 → inR a3 → inR a4 → inR a5 → inRs σ → inRs τ → ∃ q r, F_X10_setView a1 a2 a3 a4 a5 σ = some q ∧ F_X11_setView a1 a2 a3 a4 a5 τ = some r ∧ Ag [(0, 1), (1, 2)] q.1 r.1 (r.2 0 0) ∧ Rel q.2 r.2
theorem lnh_setView : Cond.methodLink (ownN 12) 144 yL_setView ∈ TB := tb_at 794 (by decide +kernel) (by decide +kernel)
set_option maxHeartbeats 4000000 in
theorem lc_setView (Rel : Sg → Sg → Prop) (h : Op_setView Rel) (hC : Cx 12 code 7 false p s m args meth c (AL s) D cI cZ) (hK : KO D cI cZ cJ s) (hT : TH (AL s) s s.heap) (hl : l.stackTraces = false) {xs : Nat → Int32} {L9 : Nat} {i : Int} (hX : va_X b L9 xs s s.heap) (hbl : b < s.heap.size) (hi : 0 ≤ i) (hi5 : i + 5 < L9) (hL9 : L9 ≤ 3072) (hRf : 401 ≤ R.frames) (hRl : 16039 ≤ R.locals) (hkc : kc + 1 ≤ R.cells) (hks : ks + 6 ≤ R.slots) (hrel : Rel σ τ) (kk : ∀ (σ' τ' : Sg) (ov' : Int), Rel σ' τ' → Rg p l e R s m args below meth c (PwL D cI cZ cJ s ax am ao b σ' τ' ov') (kc + 1) (ks + 6) Q 7 2081 (Lw i) []) : Rg p l e R s m args below meth c (PwL D cI cZ cJ s ax am ao b σ τ ov) kc ks Q 7 1032 (Lw i) [] := by
  refine rl_inR (fun hrs hrt => ?_)
  obtain ⟨q, r, hq, hr, hag, hrel2⟩ := h σ τ ((xs (i + (1 : Nat)).toNat).toInt) ((xs (i + (2 : Nat)).toNat).toInt) ((xs (i + (3 : Nat)).toNat).toInt) ((xs (i + (4 : Nat)).toNat).toInt) ((xs (i + (5 : Nat)).toNat).toInt) hrel (i32_toInt_in _) (i32_toInt_in _) (i32_toInt_in _) (i32_toInt_in _) (i32_toInt_in _) hrs hrt
  obtain ⟨ov2, hkw, hov, hin⟩ := ag_kw (ov := ov) hag
  refine rg_aload_n ⟨hC.1, hC.2.1⟩ dl_1032 rfl ?_
  refine rl_arg (j := 1) hC hX hbl hi hi5 hL9 (by decide) rfl rfl (by decide +kernel : argOK code 1033 1 = true) ?_
  refine rl_arg (j := 2) hC hX hbl hi hi5 hL9 (by decide) rfl rfl (by decide +kernel : argOK code 1039 2 = true) ?_
  refine rl_arg (j := 3) hC hX hbl hi hi5 hL9 (by decide) rfl rfl (by decide +kernel : argOK code 1045 3 = true) ?_
  refine rl_arg (j := 4) hC hX hbl hi hi5 hL9 (by decide) rfl rfl (by decide +kernel : argOK code 1051 4 = true) ?_
  refine rl_arg (j := 5) hC hX hbl hi hi5 hL9 (by decide) rfl rfl (by decide +kernel : argOK code 1057 5 = true) ?_
  refine rg_aload_n ⟨hC.1, hC.2.1⟩ dl_1063 rfl ?_
  refine rl_help (n := 7) (d1 := 400) (vs := [(xs (i + (1 : Nat)).toNat).toInt, (xs (i + (2 : Nat)).toNat).toInt, (xs (i + (3 : Nat)).toNat).toInt, (xs (i + (4 : Nat)).toNat).toInt, (xs (i + (5 : Nat)).toNat).toInt]) (k := r.2 0 0) (σ' := q.2) (ov' := ov2) hC hK hT hRf hRl dl_1064 lnh_setView cw_setView sw_setView inL (by decide) ⟨by decide, by decide, by decide +kernel⟩ rfl (Nat.le_of_ble_eq_true rfl) hkc hks (wc_setView l hl 400 (by omega) ((xs (i + (1 : Nat)).toNat).toInt) ((xs (i + (2 : Nat)).toNat).toInt) ((xs (i + (3 : Nat)).toNat).toInt) ((xs (i + (4 : Nat)).toNat).toInt) ((xs (i + (5 : Nat)).toNat).toInt) σ ov _ _ q hq hkw) ?_ hin _ rfl
  refine rg_istore ⟨hC.1, hC.2.1⟩ dl_1067 (Nat.le_of_ble_eq_true rfl) ?_
  refine rg_aload_n ⟨hC.1, hC.2.1⟩ dl_1069 rfl ?_
  refine rl_arg (j := 1) hC hX hbl hi hi5 hL9 (by decide) rfl rfl (by decide +kernel : argOK code 1070 1 = true) ?_
  refine rl_arg (j := 2) hC hX hbl hi hi5 hL9 (by decide) rfl rfl (by decide +kernel : argOK code 1076 2 = true) ?_
  refine rl_arg (j := 3) hC hX hbl hi hi5 hL9 (by decide) rfl rfl (by decide +kernel : argOK code 1082 3 = true) ?_
  refine rl_arg (j := 4) hC hX hbl hi hi5 hL9 (by decide) rfl rfl (by decide +kernel : argOK code 1088 4 = true) ?_
  refine rl_arg (j := 5) hC hX hbl hi hi5 hL9 (by decide) rfl rfl (by decide +kernel : argOK code 1094 5 = true) ?_
  refine rl_m (M1 := m_X11_setView) (vs := [(xs (i + (1 : Nat)).toNat).toInt, (xs (i + (2 : Nat)).toNat).toInt, (xs (i + (3 : Nat)).toNat).toInt, (xs (i + (4 : Nat)).toNat).toInt, (xs (i + (5 : Nat)).toNat).toInt]) (d1 := 400) hC hRf hRl dl_1100 ln_12_146 im_X11_setView mk_X11_setView rfl rfl (Nat.le_of_ble_eq_true rfl) hkc hks (lk_X11_setView l 400 (by omega) ((xs (i + (1 : Nat)).toNat).toInt) ((xs (i + (2 : Nat)).toNat).toInt) ((xs (i + (3 : Nat)).toNat).toInt) ((xs (i + (4 : Nat)).toNat).toInt) ((xs (i + (5 : Nat)).toNat).toInt) τ r hr) ?_ _ rfl
  refine rg_istore ⟨hC.1, hC.2.1⟩ dl_1103 (Nat.le_of_ble_eq_true rfl) ?_
  refine rg_aload_n ⟨hC.1, hC.2.1⟩ dl_1105 rfl ?_
  refine rl_m (M1 := m_X11_thrown) (vs := []) (d1 := 400) hC hRf hRl dl_1106 ln_12_107 im_X11_thrown mk_X11_thrown rfl rfl (Nat.le_of_ble_eq_true rfl) hkc hks (lk_X11_thrown l 400 (by omega) r.2 _ rfl) ?_ _ rfl
  refine rg_iload ⟨hC.1, hC.2.1⟩ dl_1109 rfl ?_
  refine rg_icmp_eq ⟨hC.1, hC.2.1⟩ dl_1111 (by rfl) (fun _ => ?_) (fun h9 => absurd rfl h9)
  refine rg_iload ⟨hC.1, hC.2.1⟩ dl_1116 rfl ?_
  refine rg_if_ne ⟨hC.1, hC.2.1⟩ dl_1118 (by rfl) (fun _ => ?_) (fun h0 => ?_)
  · exact rg_goto ⟨hC.1, hC.2.1⟩ dl_1133 (by rfl) (rg_weak (L' := Lw i) (Nat.le_of_ble_eq_true rfl) lw_weak (kk _ _ _ hrel2))
  · refine rg_aload_n ⟨hC.1, hC.2.1⟩ dl_1121 rfl ?_
    refine rg_iconst ⟨hC.1, hC.2.1⟩ dl_1122 in0 ?_
    obtain rfl := hov h0
    refine rl_cmp (tgt := 1133) hC hK dl_1123 dl_1124 rfl dl_1126 dl_1127 dl_1128 (by rfl) ?_
    exact rg_goto ⟨hC.1, hC.2.1⟩ dl_1133 (by rfl) (rg_weak (L' := Lw i) (Nat.le_of_ble_eq_true rfl) lw_weak (kk _ _ _ hrel2))
def Op_begin (Rel : Sg → Sg → Prop) : Prop := ∀ (σ τ : Sg) (a1 : Int) (a2 : Int) (a3 : Int) (a4 : Int), Rel σ τ → inR a1 → inR a2 → inR a3 → inR a4 → inRs σ → inRs τ → ∃ q r, F_X10_begin a1 a2 a3 a4 σ = some q ∧ F_X11_begin a1 a2 a3 a4 τ = some r ∧ Ag [(1, 1)] q.1 r.1 (r.2 0 0) ∧ Rel q.2 r.2
theorem lnh_begin : Cond.methodLink (ownN 12) 147 yL_begin ∈ TB := tb_at 810 (by decide +kernel) (by decide +kernel)
set_option maxHeartbeats 4000000 in
theorem lc_begin (Rel : Sg → Sg → Prop) (h : Op_begin Rel) (hC : Cx 12 code 7 false p s m args meth c (AL s) D cI cZ) (hK : KO D cI cZ cJ s) (hT : TH (AL s) s s.heap) (hl : l.stackTraces = false) {xs : Nat → Int32} {L9 : Nat} {i : Int} (hX : va_X b L9 xs s s.heap) (hbl : b < s.heap.size) (hi : 0 ≤ i) (hi5 : i + 5 < L9) (hL9 : L9 ≤ 3072) (hRf : 401 ≤ R.frames) (hRl : 16039 ≤ R.locals) (hkc : kc + 1 ≤ R.cells) (hks : ks + 6 ≤ R.slots) (hrel : Rel σ τ) (kk : ∀ (σ' τ' : Sg) (ov' : Int), Rel σ' τ' → Rg p l e R s m args below meth c (PwL D cI cZ cJ s ax am ao b σ' τ' ov') (kc + 1) (ks + 6) Q 7 2081 (Lw i) []) : Rg p l e R s m args below meth c (PwL D cI cZ cJ s ax am ao b σ τ ov) kc ks Q 7 1136 (Lw i) [] := by
  refine rl_inR (fun hrs hrt => ?_)
  obtain ⟨q, r, hq, hr, hag, hrel2⟩ := h σ τ ((xs (i + (1 : Nat)).toNat).toInt) ((xs (i + (2 : Nat)).toNat).toInt) ((xs (i + (3 : Nat)).toNat).toInt) ((xs (i + (4 : Nat)).toNat).toInt) hrel (i32_toInt_in _) (i32_toInt_in _) (i32_toInt_in _) (i32_toInt_in _) hrs hrt
  obtain ⟨ov2, hkw, hov, hin⟩ := ag_kw (ov := ov) hag
  refine rg_aload_n ⟨hC.1, hC.2.1⟩ dl_1136 rfl ?_
  refine rl_arg (j := 1) hC hX hbl hi hi5 hL9 (by decide) rfl rfl (by decide +kernel : argOK code 1137 1 = true) ?_
  refine rl_arg (j := 2) hC hX hbl hi hi5 hL9 (by decide) rfl rfl (by decide +kernel : argOK code 1143 2 = true) ?_
  refine rl_arg (j := 3) hC hX hbl hi hi5 hL9 (by decide) rfl rfl (by decide +kernel : argOK code 1149 3 = true) ?_
  refine rl_arg (j := 4) hC hX hbl hi hi5 hL9 (by decide) rfl rfl (by decide +kernel : argOK code 1155 4 = true) ?_
  refine rg_aload_n ⟨hC.1, hC.2.1⟩ dl_1161 rfl ?_
  refine rl_help (n := 6) (d1 := 400) (vs := [(xs (i + (1 : Nat)).toNat).toInt, (xs (i + (2 : Nat)).toNat).toInt, (xs (i + (3 : Nat)).toNat).toInt, (xs (i + (4 : Nat)).toNat).toInt]) (k := r.2 0 0) (σ' := q.2) (ov' := ov2) hC hK hT hRf hRl dl_1162 lnh_begin cw_begin sw_begin inL (by decide) ⟨by decide, by decide, by decide +kernel⟩ rfl (Nat.le_of_ble_eq_true rfl) hkc hks (wc_begin l hl 400 (by omega) ((xs (i + (1 : Nat)).toNat).toInt) ((xs (i + (2 : Nat)).toNat).toInt) ((xs (i + (3 : Nat)).toNat).toInt) ((xs (i + (4 : Nat)).toNat).toInt) σ ov _ _ q hq hkw) ?_ hin _ rfl
  refine rg_istore ⟨hC.1, hC.2.1⟩ dl_1165 (Nat.le_of_ble_eq_true rfl) ?_
  refine rg_aload_n ⟨hC.1, hC.2.1⟩ dl_1167 rfl ?_
  refine rl_arg (j := 1) hC hX hbl hi hi5 hL9 (by decide) rfl rfl (by decide +kernel : argOK code 1168 1 = true) ?_
  refine rl_arg (j := 2) hC hX hbl hi hi5 hL9 (by decide) rfl rfl (by decide +kernel : argOK code 1174 2 = true) ?_
  refine rl_arg (j := 3) hC hX hbl hi hi5 hL9 (by decide) rfl rfl (by decide +kernel : argOK code 1180 3 = true) ?_
  refine rl_arg (j := 4) hC hX hbl hi hi5 hL9 (by decide) rfl rfl (by decide +kernel : argOK code 1186 4 = true) ?_
  refine rl_m (M1 := m_X11_begin) (vs := [(xs (i + (1 : Nat)).toNat).toInt, (xs (i + (2 : Nat)).toNat).toInt, (xs (i + (3 : Nat)).toNat).toInt, (xs (i + (4 : Nat)).toNat).toInt]) (d1 := 400) hC hRf hRl dl_1192 ln_12_149 im_X11_begin mk_X11_begin rfl rfl (Nat.le_of_ble_eq_true rfl) hkc hks (lk_X11_begin l 400 (by omega) ((xs (i + (1 : Nat)).toNat).toInt) ((xs (i + (2 : Nat)).toNat).toInt) ((xs (i + (3 : Nat)).toNat).toInt) ((xs (i + (4 : Nat)).toNat).toInt) τ r hr) ?_ _ rfl
  refine rg_istore ⟨hC.1, hC.2.1⟩ dl_1195 (Nat.le_of_ble_eq_true rfl) ?_
  refine rg_aload_n ⟨hC.1, hC.2.1⟩ dl_1197 rfl ?_
  refine rl_m (M1 := m_X11_thrown) (vs := []) (d1 := 400) hC hRf hRl dl_1198 ln_12_107 im_X11_thrown mk_X11_thrown rfl rfl (Nat.le_of_ble_eq_true rfl) hkc hks (lk_X11_thrown l 400 (by omega) r.2 _ rfl) ?_ _ rfl
  refine rg_iload ⟨hC.1, hC.2.1⟩ dl_1201 rfl ?_
  refine rg_icmp_eq ⟨hC.1, hC.2.1⟩ dl_1203 (by rfl) (fun _ => ?_) (fun h9 => absurd rfl h9)
  refine rg_iload ⟨hC.1, hC.2.1⟩ dl_1208 rfl ?_
  refine rg_if_ne ⟨hC.1, hC.2.1⟩ dl_1210 (by rfl) (fun _ => ?_) (fun h0 => ?_)
  · exact rg_goto ⟨hC.1, hC.2.1⟩ dl_1225 (by rfl) (rg_weak (L' := Lw i) (Nat.le_of_ble_eq_true rfl) lw_weak (kk _ _ _ hrel2))
  · refine rg_aload_n ⟨hC.1, hC.2.1⟩ dl_1213 rfl ?_
    refine rg_iconst ⟨hC.1, hC.2.1⟩ dl_1214 in0 ?_
    obtain rfl := hov h0
    refine rl_cmp (tgt := 1225) hC hK dl_1215 dl_1216 rfl dl_1218 dl_1219 dl_1220 (by rfl) ?_
    exact rg_goto ⟨hC.1, hC.2.1⟩ dl_1225 (by rfl) (rg_weak (L' := Lw i) (Nat.le_of_ble_eq_true rfl) lw_weak (kk _ _ _ hrel2))
def Op_add (Rel : Sg → Sg → Prop) : Prop := ∀ (σ τ : Sg) (a1 : Int) (a2 : Int) (a3 : Int) (a4 : Int), Rel σ τ → inR a1 → inR a2 → inR a3 → inR a4 → inRs σ → inRs τ → ∃ q r, F_X10_add a1 a2 a3 a4 σ = some q ∧ F_X11_add a1 a2 a3 a4 τ = some r ∧ Ag [(0, 1), (1, 2), (2, 3)] q.1 r.1 (r.2 0 0) ∧ Rel q.2 r.2
theorem lnh_add : Cond.methodLink (ownN 12) 150 yL_add ∈ TB := tb_at 831 (by decide +kernel) (by decide +kernel)
set_option maxHeartbeats 4000000 in
theorem lc_add (Rel : Sg → Sg → Prop) (h : Op_add Rel) (hC : Cx 12 code 7 false p s m args meth c (AL s) D cI cZ) (hK : KO D cI cZ cJ s) (hT : TH (AL s) s s.heap) (hl : l.stackTraces = false) {xs : Nat → Int32} {L9 : Nat} {i : Int} (hX : va_X b L9 xs s s.heap) (hbl : b < s.heap.size) (hi : 0 ≤ i) (hi5 : i + 5 < L9) (hL9 : L9 ≤ 3072) (hRf : 401 ≤ R.frames) (hRl : 16039 ≤ R.locals) (hkc : kc + 1 ≤ R.cells) (hks : ks + 6 ≤ R.slots) (hrel : Rel σ τ) (kk : ∀ (σ' τ' : Sg) (ov' : Int), Rel σ' τ' → Rg p l e R s m args below meth c (PwL D cI cZ cJ s ax am ao b σ' τ' ov') (kc + 1) (ks + 6) Q 7 2081 (Lw i) []) : Rg p l e R s m args below meth c (PwL D cI cZ cJ s ax am ao b σ τ ov) kc ks Q 7 1228 (Lw i) [] := by
  refine rl_inR (fun hrs hrt => ?_)
  obtain ⟨q, r, hq, hr, hag, hrel2⟩ := h σ τ ((xs (i + (1 : Nat)).toNat).toInt) ((xs (i + (2 : Nat)).toNat).toInt) ((xs (i + (3 : Nat)).toNat).toInt) ((xs (i + (4 : Nat)).toNat).toInt) hrel (i32_toInt_in _) (i32_toInt_in _) (i32_toInt_in _) (i32_toInt_in _) hrs hrt
  obtain ⟨ov2, hkw, hov, hin⟩ := ag_kw (ov := ov) hag
  refine rg_aload_n ⟨hC.1, hC.2.1⟩ dl_1228 rfl ?_
  refine rl_arg (j := 1) hC hX hbl hi hi5 hL9 (by decide) rfl rfl (by decide +kernel : argOK code 1229 1 = true) ?_
  refine rl_arg (j := 2) hC hX hbl hi hi5 hL9 (by decide) rfl rfl (by decide +kernel : argOK code 1235 2 = true) ?_
  refine rl_arg (j := 3) hC hX hbl hi hi5 hL9 (by decide) rfl rfl (by decide +kernel : argOK code 1241 3 = true) ?_
  refine rl_arg (j := 4) hC hX hbl hi hi5 hL9 (by decide) rfl rfl (by decide +kernel : argOK code 1247 4 = true) ?_
  refine rg_aload_n ⟨hC.1, hC.2.1⟩ dl_1253 rfl ?_
  refine rl_help (n := 6) (d1 := 400) (vs := [(xs (i + (1 : Nat)).toNat).toInt, (xs (i + (2 : Nat)).toNat).toInt, (xs (i + (3 : Nat)).toNat).toInt, (xs (i + (4 : Nat)).toNat).toInt]) (k := r.2 0 0) (σ' := q.2) (ov' := ov2) hC hK hT hRf hRl dl_1254 lnh_add cw_add sw_add inL (by decide) ⟨by decide, by decide, by decide +kernel⟩ rfl (Nat.le_of_ble_eq_true rfl) hkc hks (wc_add l hl 400 (by omega) ((xs (i + (1 : Nat)).toNat).toInt) ((xs (i + (2 : Nat)).toNat).toInt) ((xs (i + (3 : Nat)).toNat).toInt) ((xs (i + (4 : Nat)).toNat).toInt) σ ov _ _ q hq hkw) ?_ hin _ rfl
  refine rg_istore ⟨hC.1, hC.2.1⟩ dl_1257 (Nat.le_of_ble_eq_true rfl) ?_
  refine rg_aload_n ⟨hC.1, hC.2.1⟩ dl_1259 rfl ?_
  refine rl_arg (j := 1) hC hX hbl hi hi5 hL9 (by decide) rfl rfl (by decide +kernel : argOK code 1260 1 = true) ?_
  refine rl_arg (j := 2) hC hX hbl hi hi5 hL9 (by decide) rfl rfl (by decide +kernel : argOK code 1266 2 = true) ?_
  refine rl_arg (j := 3) hC hX hbl hi hi5 hL9 (by decide) rfl rfl (by decide +kernel : argOK code 1272 3 = true) ?_
  refine rl_arg (j := 4) hC hX hbl hi hi5 hL9 (by decide) rfl rfl (by decide +kernel : argOK code 1278 4 = true) ?_
  refine rl_m (M1 := m_X11_add) (vs := [(xs (i + (1 : Nat)).toNat).toInt, (xs (i + (2 : Nat)).toNat).toInt, (xs (i + (3 : Nat)).toNat).toInt, (xs (i + (4 : Nat)).toNat).toInt]) (d1 := 400) hC hRf hRl dl_1284 ln_12_152 im_X11_add mk_X11_add rfl rfl (Nat.le_of_ble_eq_true rfl) hkc hks (lk_X11_add l 400 (by omega) ((xs (i + (1 : Nat)).toNat).toInt) ((xs (i + (2 : Nat)).toNat).toInt) ((xs (i + (3 : Nat)).toNat).toInt) ((xs (i + (4 : Nat)).toNat).toInt) τ r hr) ?_ _ rfl
  refine rg_istore ⟨hC.1, hC.2.1⟩ dl_1287 (Nat.le_of_ble_eq_true rfl) ?_
  refine rg_aload_n ⟨hC.1, hC.2.1⟩ dl_1289 rfl ?_
  refine rl_m (M1 := m_X11_thrown) (vs := []) (d1 := 400) hC hRf hRl dl_1290 ln_12_107 im_X11_thrown mk_X11_thrown rfl rfl (Nat.le_of_ble_eq_true rfl) hkc hks (lk_X11_thrown l 400 (by omega) r.2 _ rfl) ?_ _ rfl
  refine rg_iload ⟨hC.1, hC.2.1⟩ dl_1293 rfl ?_
  refine rg_icmp_eq ⟨hC.1, hC.2.1⟩ dl_1295 (by rfl) (fun _ => ?_) (fun h9 => absurd rfl h9)
  refine rg_iload ⟨hC.1, hC.2.1⟩ dl_1300 rfl ?_
  refine rg_if_ne ⟨hC.1, hC.2.1⟩ dl_1302 (by rfl) (fun _ => ?_) (fun h0 => ?_)
  · exact rg_goto ⟨hC.1, hC.2.1⟩ dl_1317 (by rfl) (rg_weak (L' := Lw i) (Nat.le_of_ble_eq_true rfl) lw_weak (kk _ _ _ hrel2))
  · refine rg_aload_n ⟨hC.1, hC.2.1⟩ dl_1305 rfl ?_
    refine rg_iconst ⟨hC.1, hC.2.1⟩ dl_1306 in0 ?_
    obtain rfl := hov h0
    refine rl_cmp (tgt := 1317) hC hK dl_1307 dl_1308 rfl dl_1310 dl_1311 dl_1312 (by rfl) ?_
    exact rg_goto ⟨hC.1, hC.2.1⟩ dl_1317 (by rfl) (rg_weak (L' := Lw i) (Nat.le_of_ble_eq_true rfl) lw_weak (kk _ _ _ hrel2))
def Op_guard (Rel : Sg → Sg → Prop) : Prop := ∀ (σ τ : Sg) (a1 : Int) (a2 : Int) (a3 : Int) (a4 : Int), Rel σ τ → inR a1 → inR a2 → inR a3 → inR a4 → inRs σ → inRs τ → ∃ q r, F_X10_guard a1 a2 a3 a4 σ = some q ∧ F_X11_guard a1 a2 a3 a4 τ = some r ∧ Ag [(0, 1), (1, 2)] q.1 r.1 (r.2 0 0) ∧ Rel q.2 r.2
theorem lnh_guard : Cond.methodLink (ownN 12) 153 yL_guard ∈ TB := tb_at 869 (by decide +kernel) (by decide +kernel)
set_option maxHeartbeats 4000000 in
theorem lc_guard (Rel : Sg → Sg → Prop) (h : Op_guard Rel) (hC : Cx 12 code 7 false p s m args meth c (AL s) D cI cZ) (hK : KO D cI cZ cJ s) (hT : TH (AL s) s s.heap) (hl : l.stackTraces = false) {xs : Nat → Int32} {L9 : Nat} {i : Int} (hX : va_X b L9 xs s s.heap) (hbl : b < s.heap.size) (hi : 0 ≤ i) (hi5 : i + 5 < L9) (hL9 : L9 ≤ 3072) (hRf : 401 ≤ R.frames) (hRl : 16039 ≤ R.locals) (hkc : kc + 1 ≤ R.cells) (hks : ks + 6 ≤ R.slots) (hrel : Rel σ τ) (kk : ∀ (σ' τ' : Sg) (ov' : Int), Rel σ' τ' → Rg p l e R s m args below meth c (PwL D cI cZ cJ s ax am ao b σ' τ' ov') (kc + 1) (ks + 6) Q 7 2081 (Lw i) []) : Rg p l e R s m args below meth c (PwL D cI cZ cJ s ax am ao b σ τ ov) kc ks Q 7 1320 (Lw i) [] := by
  refine rl_inR (fun hrs hrt => ?_)
  obtain ⟨q, r, hq, hr, hag, hrel2⟩ := h σ τ ((xs (i + (1 : Nat)).toNat).toInt) ((xs (i + (2 : Nat)).toNat).toInt) ((xs (i + (3 : Nat)).toNat).toInt) ((xs (i + (4 : Nat)).toNat).toInt) hrel (i32_toInt_in _) (i32_toInt_in _) (i32_toInt_in _) (i32_toInt_in _) hrs hrt
  obtain ⟨ov2, hkw, hov, hin⟩ := ag_kw (ov := ov) hag
  refine rg_aload_n ⟨hC.1, hC.2.1⟩ dl_1320 rfl ?_
  refine rl_arg (j := 1) hC hX hbl hi hi5 hL9 (by decide) rfl rfl (by decide +kernel : argOK code 1321 1 = true) ?_
  refine rl_arg (j := 2) hC hX hbl hi hi5 hL9 (by decide) rfl rfl (by decide +kernel : argOK code 1327 2 = true) ?_
  refine rl_arg (j := 3) hC hX hbl hi hi5 hL9 (by decide) rfl rfl (by decide +kernel : argOK code 1333 3 = true) ?_
  refine rl_arg (j := 4) hC hX hbl hi hi5 hL9 (by decide) rfl rfl (by decide +kernel : argOK code 1339 4 = true) ?_
  refine rg_aload_n ⟨hC.1, hC.2.1⟩ dl_1345 rfl ?_
  refine rl_help (n := 6) (d1 := 400) (vs := [(xs (i + (1 : Nat)).toNat).toInt, (xs (i + (2 : Nat)).toNat).toInt, (xs (i + (3 : Nat)).toNat).toInt, (xs (i + (4 : Nat)).toNat).toInt]) (k := r.2 0 0) (σ' := q.2) (ov' := ov2) hC hK hT hRf hRl dl_1346 lnh_guard cw_guard sw_guard inL (by decide) ⟨by decide, by decide, by decide +kernel⟩ rfl (Nat.le_of_ble_eq_true rfl) hkc hks (wc_guard l hl 400 (by omega) ((xs (i + (1 : Nat)).toNat).toInt) ((xs (i + (2 : Nat)).toNat).toInt) ((xs (i + (3 : Nat)).toNat).toInt) ((xs (i + (4 : Nat)).toNat).toInt) σ ov _ _ q hq hkw) ?_ hin _ rfl
  refine rg_istore ⟨hC.1, hC.2.1⟩ dl_1349 (Nat.le_of_ble_eq_true rfl) ?_
  refine rg_aload_n ⟨hC.1, hC.2.1⟩ dl_1351 rfl ?_
  refine rl_arg (j := 1) hC hX hbl hi hi5 hL9 (by decide) rfl rfl (by decide +kernel : argOK code 1352 1 = true) ?_
  refine rl_arg (j := 2) hC hX hbl hi hi5 hL9 (by decide) rfl rfl (by decide +kernel : argOK code 1358 2 = true) ?_
  refine rl_arg (j := 3) hC hX hbl hi hi5 hL9 (by decide) rfl rfl (by decide +kernel : argOK code 1364 3 = true) ?_
  refine rl_arg (j := 4) hC hX hbl hi hi5 hL9 (by decide) rfl rfl (by decide +kernel : argOK code 1370 4 = true) ?_
  refine rl_m (M1 := m_X11_guard) (vs := [(xs (i + (1 : Nat)).toNat).toInt, (xs (i + (2 : Nat)).toNat).toInt, (xs (i + (3 : Nat)).toNat).toInt, (xs (i + (4 : Nat)).toNat).toInt]) (d1 := 400) hC hRf hRl dl_1376 ln_12_155 im_X11_guard mk_X11_guard rfl rfl (Nat.le_of_ble_eq_true rfl) hkc hks (lk_X11_guard l 400 (by omega) ((xs (i + (1 : Nat)).toNat).toInt) ((xs (i + (2 : Nat)).toNat).toInt) ((xs (i + (3 : Nat)).toNat).toInt) ((xs (i + (4 : Nat)).toNat).toInt) τ r hr) ?_ _ rfl
  refine rg_istore ⟨hC.1, hC.2.1⟩ dl_1379 (Nat.le_of_ble_eq_true rfl) ?_
  refine rg_aload_n ⟨hC.1, hC.2.1⟩ dl_1381 rfl ?_
  refine rl_m (M1 := m_X11_thrown) (vs := []) (d1 := 400) hC hRf hRl dl_1382 ln_12_107 im_X11_thrown mk_X11_thrown rfl rfl (Nat.le_of_ble_eq_true rfl) hkc hks (lk_X11_thrown l 400 (by omega) r.2 _ rfl) ?_ _ rfl
  refine rg_iload ⟨hC.1, hC.2.1⟩ dl_1385 rfl ?_
  refine rg_icmp_eq ⟨hC.1, hC.2.1⟩ dl_1387 (by rfl) (fun _ => ?_) (fun h9 => absurd rfl h9)
  refine rg_iload ⟨hC.1, hC.2.1⟩ dl_1392 rfl ?_
  refine rg_if_ne ⟨hC.1, hC.2.1⟩ dl_1394 (by rfl) (fun _ => ?_) (fun h0 => ?_)
  · exact rg_goto ⟨hC.1, hC.2.1⟩ dl_1409 (by rfl) (rg_weak (L' := Lw i) (Nat.le_of_ble_eq_true rfl) lw_weak (kk _ _ _ hrel2))
  · refine rg_aload_n ⟨hC.1, hC.2.1⟩ dl_1397 rfl ?_
    refine rg_iconst ⟨hC.1, hC.2.1⟩ dl_1398 in0 ?_
    obtain rfl := hov h0
    refine rl_cmp (tgt := 1409) hC hK dl_1399 dl_1400 rfl dl_1402 dl_1403 dl_1404 (by rfl) ?_
    exact rg_goto ⟨hC.1, hC.2.1⟩ dl_1409 (by rfl) (rg_weak (L' := Lw i) (Nat.le_of_ble_eq_true rfl) lw_weak (kk _ _ _ hrel2))
def Op_split (Rel : Sg → Sg → Prop) : Prop := ∀ (σ τ : Sg) (a1 : Int) (a2 : Int), Rel σ τ → inR a1 → inR a2 → inRs σ → inRs τ → ∃ q r, F_X10_split a1 a2 σ = some q ∧ F_X11_split a1 a2 τ = some r ∧ Ag [(0, 1), (2, 2)] q.1 r.1 (r.2 0 0) ∧ Rel q.2 r.2
theorem lnh_split : Cond.methodLink (ownN 12) 156 yL_split ∈ TB := tb_at 897 (by decide +kernel) (by decide +kernel)
set_option maxHeartbeats 4000000 in
theorem lc_split (Rel : Sg → Sg → Prop) (h : Op_split Rel) (hC : Cx 12 code 7 false p s m args meth c (AL s) D cI cZ) (hK : KO D cI cZ cJ s) (hT : TH (AL s) s s.heap) (hl : l.stackTraces = false) {xs : Nat → Int32} {L9 : Nat} {i : Int} (hX : va_X b L9 xs s s.heap) (hbl : b < s.heap.size) (hi : 0 ≤ i) (hi5 : i + 5 < L9) (hL9 : L9 ≤ 3072) (hRf : 401 ≤ R.frames) (hRl : 16039 ≤ R.locals) (hkc : kc + 1 ≤ R.cells) (hks : ks + 6 ≤ R.slots) (hrel : Rel σ τ) (kk : ∀ (σ' τ' : Sg) (ov' : Int), Rel σ' τ' → Rg p l e R s m args below meth c (PwL D cI cZ cJ s ax am ao b σ' τ' ov') (kc + 1) (ks + 6) Q 7 2081 (Lw i) []) : Rg p l e R s m args below meth c (PwL D cI cZ cJ s ax am ao b σ τ ov) kc ks Q 7 1412 (Lw i) [] := by
  refine rl_inR (fun hrs hrt => ?_)
  obtain ⟨q, r, hq, hr, hag, hrel2⟩ := h σ τ ((xs (i + (1 : Nat)).toNat).toInt) ((xs (i + (2 : Nat)).toNat).toInt) hrel (i32_toInt_in _) (i32_toInt_in _) hrs hrt
  obtain ⟨ov2, hkw, hov, hin⟩ := ag_kw (ov := ov) hag
  refine rg_aload_n ⟨hC.1, hC.2.1⟩ dl_1412 rfl ?_
  refine rl_arg (j := 1) hC hX hbl hi hi5 hL9 (by decide) rfl rfl (by decide +kernel : argOK code 1413 1 = true) ?_
  refine rl_arg (j := 2) hC hX hbl hi hi5 hL9 (by decide) rfl rfl (by decide +kernel : argOK code 1419 2 = true) ?_
  refine rg_aload_n ⟨hC.1, hC.2.1⟩ dl_1425 rfl ?_
  refine rl_help (n := 4) (d1 := 400) (vs := [(xs (i + (1 : Nat)).toNat).toInt, (xs (i + (2 : Nat)).toNat).toInt]) (k := r.2 0 0) (σ' := q.2) (ov' := ov2) hC hK hT hRf hRl dl_1426 lnh_split cw_split sw_split inL (by decide) ⟨by decide, by decide, by decide +kernel⟩ rfl (Nat.le_of_ble_eq_true rfl) hkc hks (wc_split l hl 400 (by omega) ((xs (i + (1 : Nat)).toNat).toInt) ((xs (i + (2 : Nat)).toNat).toInt) σ ov _ _ q hq hkw) ?_ hin _ rfl
  refine rg_istore ⟨hC.1, hC.2.1⟩ dl_1429 (Nat.le_of_ble_eq_true rfl) ?_
  refine rg_aload_n ⟨hC.1, hC.2.1⟩ dl_1431 rfl ?_
  refine rl_arg (j := 1) hC hX hbl hi hi5 hL9 (by decide) rfl rfl (by decide +kernel : argOK code 1432 1 = true) ?_
  refine rl_arg (j := 2) hC hX hbl hi hi5 hL9 (by decide) rfl rfl (by decide +kernel : argOK code 1438 2 = true) ?_
  refine rl_m (M1 := m_X11_split) (vs := [(xs (i + (1 : Nat)).toNat).toInt, (xs (i + (2 : Nat)).toNat).toInt]) (d1 := 400) hC hRf hRl dl_1444 ln_12_158 im_X11_split mk_X11_split rfl rfl (Nat.le_of_ble_eq_true rfl) hkc hks (lk_X11_split l 400 (by omega) ((xs (i + (1 : Nat)).toNat).toInt) ((xs (i + (2 : Nat)).toNat).toInt) τ r hr) ?_ _ rfl
  refine rg_istore ⟨hC.1, hC.2.1⟩ dl_1447 (Nat.le_of_ble_eq_true rfl) ?_
  refine rg_aload_n ⟨hC.1, hC.2.1⟩ dl_1449 rfl ?_
  refine rl_m (M1 := m_X11_thrown) (vs := []) (d1 := 400) hC hRf hRl dl_1450 ln_12_107 im_X11_thrown mk_X11_thrown rfl rfl (Nat.le_of_ble_eq_true rfl) hkc hks (lk_X11_thrown l 400 (by omega) r.2 _ rfl) ?_ _ rfl
  refine rg_iload ⟨hC.1, hC.2.1⟩ dl_1453 rfl ?_
  refine rg_icmp_eq ⟨hC.1, hC.2.1⟩ dl_1455 (by rfl) (fun _ => ?_) (fun h9 => absurd rfl h9)
  refine rg_iload ⟨hC.1, hC.2.1⟩ dl_1460 rfl ?_
  refine rg_if_ne ⟨hC.1, hC.2.1⟩ dl_1462 (by rfl) (fun _ => ?_) (fun h0 => ?_)
  · exact rg_goto ⟨hC.1, hC.2.1⟩ dl_1477 (by rfl) (rg_weak (L' := Lw i) (Nat.le_of_ble_eq_true rfl) lw_weak (kk _ _ _ hrel2))
  · refine rg_aload_n ⟨hC.1, hC.2.1⟩ dl_1465 rfl ?_
    refine rg_iconst ⟨hC.1, hC.2.1⟩ dl_1466 in0 ?_
    obtain rfl := hov h0
    refine rl_cmp (tgt := 1477) hC hK dl_1467 dl_1468 rfl dl_1470 dl_1471 dl_1472 (by rfl) ?_
    exact rg_goto ⟨hC.1, hC.2.1⟩ dl_1477 (by rfl) (rg_weak (L' := Lw i) (Nat.le_of_ble_eq_true rfl) lw_weak (kk _ _ _ hrel2))
def Op_merge (Rel : Sg → Sg → Prop) : Prop := ∀ (σ τ : Sg) (a1 : Int) (a2 : Int), Rel σ τ → inR a1 → inR a2 → inRs σ → inRs τ → ∃ q r, F_X10_merge a1 a2 σ = some q ∧ F_X11_merge a1 a2 τ = some r ∧ Ag [(0, 1), (2, 2)] q.1 r.1 (r.2 0 0) ∧ Rel q.2 r.2
theorem lnh_merge : Cond.methodLink (ownN 12) 159 yL_merge ∈ TB := tb_at 918 (by decide +kernel) (by decide +kernel)
set_option maxHeartbeats 4000000 in
theorem lc_merge (Rel : Sg → Sg → Prop) (h : Op_merge Rel) (hC : Cx 12 code 7 false p s m args meth c (AL s) D cI cZ) (hK : KO D cI cZ cJ s) (hT : TH (AL s) s s.heap) (hl : l.stackTraces = false) {xs : Nat → Int32} {L9 : Nat} {i : Int} (hX : va_X b L9 xs s s.heap) (hbl : b < s.heap.size) (hi : 0 ≤ i) (hi5 : i + 5 < L9) (hL9 : L9 ≤ 3072) (hRf : 401 ≤ R.frames) (hRl : 16039 ≤ R.locals) (hkc : kc + 1 ≤ R.cells) (hks : ks + 6 ≤ R.slots) (hrel : Rel σ τ) (kk : ∀ (σ' τ' : Sg) (ov' : Int), Rel σ' τ' → Rg p l e R s m args below meth c (PwL D cI cZ cJ s ax am ao b σ' τ' ov') (kc + 1) (ks + 6) Q 7 2081 (Lw i) []) : Rg p l e R s m args below meth c (PwL D cI cZ cJ s ax am ao b σ τ ov) kc ks Q 7 1480 (Lw i) [] := by
  refine rl_inR (fun hrs hrt => ?_)
  obtain ⟨q, r, hq, hr, hag, hrel2⟩ := h σ τ ((xs (i + (1 : Nat)).toNat).toInt) ((xs (i + (2 : Nat)).toNat).toInt) hrel (i32_toInt_in _) (i32_toInt_in _) hrs hrt
  obtain ⟨ov2, hkw, hov, hin⟩ := ag_kw (ov := ov) hag
  refine rg_aload_n ⟨hC.1, hC.2.1⟩ dl_1480 rfl ?_
  refine rl_arg (j := 1) hC hX hbl hi hi5 hL9 (by decide) rfl rfl (by decide +kernel : argOK code 1481 1 = true) ?_
  refine rl_arg (j := 2) hC hX hbl hi hi5 hL9 (by decide) rfl rfl (by decide +kernel : argOK code 1487 2 = true) ?_
  refine rg_aload_n ⟨hC.1, hC.2.1⟩ dl_1493 rfl ?_
  refine rl_help (n := 4) (d1 := 400) (vs := [(xs (i + (1 : Nat)).toNat).toInt, (xs (i + (2 : Nat)).toNat).toInt]) (k := r.2 0 0) (σ' := q.2) (ov' := ov2) hC hK hT hRf hRl dl_1494 lnh_merge cw_merge sw_merge inL (by decide) ⟨by decide, by decide, by decide +kernel⟩ rfl (Nat.le_of_ble_eq_true rfl) hkc hks (wc_merge l hl 400 (by omega) ((xs (i + (1 : Nat)).toNat).toInt) ((xs (i + (2 : Nat)).toNat).toInt) σ ov _ _ q hq hkw) ?_ hin _ rfl
  refine rg_istore ⟨hC.1, hC.2.1⟩ dl_1497 (Nat.le_of_ble_eq_true rfl) ?_
  refine rg_aload_n ⟨hC.1, hC.2.1⟩ dl_1499 rfl ?_
  refine rl_arg (j := 1) hC hX hbl hi hi5 hL9 (by decide) rfl rfl (by decide +kernel : argOK code 1500 1 = true) ?_
  refine rl_arg (j := 2) hC hX hbl hi hi5 hL9 (by decide) rfl rfl (by decide +kernel : argOK code 1506 2 = true) ?_
  refine rl_m (M1 := m_X11_merge) (vs := [(xs (i + (1 : Nat)).toNat).toInt, (xs (i + (2 : Nat)).toNat).toInt]) (d1 := 400) hC hRf hRl dl_1512 ln_12_161 im_X11_merge mk_X11_merge rfl rfl (Nat.le_of_ble_eq_true rfl) hkc hks (lk_X11_merge l 400 (by omega) ((xs (i + (1 : Nat)).toNat).toInt) ((xs (i + (2 : Nat)).toNat).toInt) τ r hr) ?_ _ rfl
  refine rg_istore ⟨hC.1, hC.2.1⟩ dl_1515 (Nat.le_of_ble_eq_true rfl) ?_
  refine rg_aload_n ⟨hC.1, hC.2.1⟩ dl_1517 rfl ?_
  refine rl_m (M1 := m_X11_thrown) (vs := []) (d1 := 400) hC hRf hRl dl_1518 ln_12_107 im_X11_thrown mk_X11_thrown rfl rfl (Nat.le_of_ble_eq_true rfl) hkc hks (lk_X11_thrown l 400 (by omega) r.2 _ rfl) ?_ _ rfl
  refine rg_iload ⟨hC.1, hC.2.1⟩ dl_1521 rfl ?_
  refine rg_icmp_eq ⟨hC.1, hC.2.1⟩ dl_1523 (by rfl) (fun _ => ?_) (fun h9 => absurd rfl h9)
  refine rg_iload ⟨hC.1, hC.2.1⟩ dl_1528 rfl ?_
  refine rg_if_ne ⟨hC.1, hC.2.1⟩ dl_1530 (by rfl) (fun _ => ?_) (fun h0 => ?_)
  · exact rg_goto ⟨hC.1, hC.2.1⟩ dl_1545 (by rfl) (rg_weak (L' := Lw i) (Nat.le_of_ble_eq_true rfl) lw_weak (kk _ _ _ hrel2))
  · refine rg_aload_n ⟨hC.1, hC.2.1⟩ dl_1533 rfl ?_
    refine rg_iconst ⟨hC.1, hC.2.1⟩ dl_1534 in0 ?_
    obtain rfl := hov h0
    refine rl_cmp (tgt := 1545) hC hK dl_1535 dl_1536 rfl dl_1538 dl_1539 dl_1540 (by rfl) ?_
    exact rg_goto ⟨hC.1, hC.2.1⟩ dl_1545 (by rfl) (rg_weak (L' := Lw i) (Nat.le_of_ble_eq_true rfl) lw_weak (kk _ _ _ hrel2))
def Op_run (Rel : Sg → Sg → Prop) : Prop := ∀ (σ τ : Sg) (a1 : Int) (a2 : Int) (a3 : Int) (a4 : Int), Rel σ τ → inR a1 → inR a2 → inR a3 → inR a4 → inRs σ → inRs τ → ∃ q r, F_X10_run a1 a2 a3 a4 σ = some q ∧ F_X11_run a1 a2 a3 a4 τ = some r ∧ Ag [(0, 1), (1, 2), (2, 3)] q.1 r.1 (r.2 0 0) ∧ Rel q.2 r.2
theorem lnh_run : Cond.methodLink (ownN 12) 162 yL_run ∈ TB := tb_at 933 (by decide +kernel) (by decide +kernel)
set_option maxHeartbeats 4000000 in
theorem lc_run (Rel : Sg → Sg → Prop) (h : Op_run Rel) (hC : Cx 12 code 7 false p s m args meth c (AL s) D cI cZ) (hK : KO D cI cZ cJ s) (hT : TH (AL s) s s.heap) (hl : l.stackTraces = false) {xs : Nat → Int32} {L9 : Nat} {i : Int} (hX : va_X b L9 xs s s.heap) (hbl : b < s.heap.size) (hi : 0 ≤ i) (hi5 : i + 5 < L9) (hL9 : L9 ≤ 3072) (hRf : 401 ≤ R.frames) (hRl : 16039 ≤ R.locals) (hkc : kc + 1 ≤ R.cells) (hks : ks + 6 ≤ R.slots) (hrel : Rel σ τ) (kk : ∀ (σ' τ' : Sg) (ov' : Int), Rel σ' τ' → Rg p l e R s m args below meth c (PwL D cI cZ cJ s ax am ao b σ' τ' ov') (kc + 1) (ks + 6) Q 7 2081 (Lw i) []) : Rg p l e R s m args below meth c (PwL D cI cZ cJ s ax am ao b σ τ ov) kc ks Q 7 1548 (Lw i) [] := by
  refine rl_inR (fun hrs hrt => ?_)
  obtain ⟨q, r, hq, hr, hag, hrel2⟩ := h σ τ ((xs (i + (1 : Nat)).toNat).toInt) ((xs (i + (2 : Nat)).toNat).toInt) ((xs (i + (3 : Nat)).toNat).toInt) ((xs (i + (4 : Nat)).toNat).toInt) hrel (i32_toInt_in _) (i32_toInt_in _) (i32_toInt_in _) (i32_toInt_in _) hrs hrt
  obtain ⟨ov2, hkw, hov, hin⟩ := ag_kw (ov := ov) hag
  refine rg_aload_n ⟨hC.1, hC.2.1⟩ dl_1548 rfl ?_
  refine rl_arg (j := 1) hC hX hbl hi hi5 hL9 (by decide) rfl rfl (by decide +kernel : argOK code 1549 1 = true) ?_
  refine rl_arg (j := 2) hC hX hbl hi hi5 hL9 (by decide) rfl rfl (by decide +kernel : argOK code 1555 2 = true) ?_
  refine rl_arg (j := 3) hC hX hbl hi hi5 hL9 (by decide) rfl rfl (by decide +kernel : argOK code 1561 3 = true) ?_
  refine rl_arg (j := 4) hC hX hbl hi hi5 hL9 (by decide) rfl rfl (by decide +kernel : argOK code 1567 4 = true) ?_
  refine rg_aload_n ⟨hC.1, hC.2.1⟩ dl_1573 rfl ?_
  refine rl_help (n := 6) (d1 := 400) (vs := [(xs (i + (1 : Nat)).toNat).toInt, (xs (i + (2 : Nat)).toNat).toInt, (xs (i + (3 : Nat)).toNat).toInt, (xs (i + (4 : Nat)).toNat).toInt]) (k := r.2 0 0) (σ' := q.2) (ov' := ov2) hC hK hT hRf hRl dl_1574 lnh_run cw_run sw_run inL (by decide) ⟨by decide, by decide, by decide +kernel⟩ rfl (Nat.le_of_ble_eq_true rfl) hkc hks (wc_run l hl 400 (by omega) ((xs (i + (1 : Nat)).toNat).toInt) ((xs (i + (2 : Nat)).toNat).toInt) ((xs (i + (3 : Nat)).toNat).toInt) ((xs (i + (4 : Nat)).toNat).toInt) σ ov _ _ q hq hkw) ?_ hin _ rfl
  refine rg_istore ⟨hC.1, hC.2.1⟩ dl_1577 (Nat.le_of_ble_eq_true rfl) ?_
  refine rg_aload_n ⟨hC.1, hC.2.1⟩ dl_1579 rfl ?_
  refine rl_arg (j := 1) hC hX hbl hi hi5 hL9 (by decide) rfl rfl (by decide +kernel : argOK code 1580 1 = true) ?_
  refine rl_arg (j := 2) hC hX hbl hi hi5 hL9 (by decide) rfl rfl (by decide +kernel : argOK code 1586 2 = true) ?_
  refine rl_arg (j := 3) hC hX hbl hi hi5 hL9 (by decide) rfl rfl (by decide +kernel : argOK code 1592 3 = true) ?_
  refine rl_arg (j := 4) hC hX hbl hi hi5 hL9 (by decide) rfl rfl (by decide +kernel : argOK code 1598 4 = true) ?_
  refine rl_m (M1 := m_X11_run) (vs := [(xs (i + (1 : Nat)).toNat).toInt, (xs (i + (2 : Nat)).toNat).toInt, (xs (i + (3 : Nat)).toNat).toInt, (xs (i + (4 : Nat)).toNat).toInt]) (d1 := 400) hC hRf hRl dl_1604 ln_12_164 im_X11_run mk_X11_run rfl rfl (Nat.le_of_ble_eq_true rfl) hkc hks (lk_X11_run l 400 (by omega) ((xs (i + (1 : Nat)).toNat).toInt) ((xs (i + (2 : Nat)).toNat).toInt) ((xs (i + (3 : Nat)).toNat).toInt) ((xs (i + (4 : Nat)).toNat).toInt) τ r hr) ?_ _ rfl
  refine rg_istore ⟨hC.1, hC.2.1⟩ dl_1607 (Nat.le_of_ble_eq_true rfl) ?_
  refine rg_aload_n ⟨hC.1, hC.2.1⟩ dl_1609 rfl ?_
  refine rl_m (M1 := m_X11_thrown) (vs := []) (d1 := 400) hC hRf hRl dl_1610 ln_12_107 im_X11_thrown mk_X11_thrown rfl rfl (Nat.le_of_ble_eq_true rfl) hkc hks (lk_X11_thrown l 400 (by omega) r.2 _ rfl) ?_ _ rfl
  refine rg_iload ⟨hC.1, hC.2.1⟩ dl_1613 rfl ?_
  refine rg_icmp_eq ⟨hC.1, hC.2.1⟩ dl_1615 (by rfl) (fun _ => ?_) (fun h9 => absurd rfl h9)
  refine rg_iload ⟨hC.1, hC.2.1⟩ dl_1620 rfl ?_
  refine rg_if_ne ⟨hC.1, hC.2.1⟩ dl_1622 (by rfl) (fun _ => ?_) (fun h0 => ?_)
  · exact rg_goto ⟨hC.1, hC.2.1⟩ dl_1637 (by rfl) (rg_weak (L' := Lw i) (Nat.le_of_ble_eq_true rfl) lw_weak (kk _ _ _ hrel2))
  · refine rg_aload_n ⟨hC.1, hC.2.1⟩ dl_1625 rfl ?_
    refine rg_iconst ⟨hC.1, hC.2.1⟩ dl_1626 in0 ?_
    obtain rfl := hov h0
    refine rl_cmp (tgt := 1637) hC hK dl_1627 dl_1628 rfl dl_1630 dl_1631 dl_1632 (by rfl) ?_
    exact rg_goto ⟨hC.1, hC.2.1⟩ dl_1637 (by rfl) (rg_weak (L' := Lw i) (Nat.le_of_ble_eq_true rfl) lw_weak (kk _ _ _ hrel2))
def Op_tests (Rel : Sg → Sg → Prop) : Prop := ∀ (σ τ : Sg), Rel σ τ → inRs σ → inRs τ → F_X10_tests σ = (F_X11_tests τ).1 ∧ Rel σ (F_X11_tests τ).2
theorem lc_tests (Rel : Sg → Sg → Prop) (h : Op_tests Rel) (hC : Cx 12 code 7 false p s m args meth c (AL s) D cI cZ) (hK : KO D cI cZ cJ s) (hT : TH (AL s) s s.heap) (hl : l.stackTraces = false) {xs : Nat → Int32} {L9 : Nat} {i : Int} (hX : va_X b L9 xs s s.heap) (hbl : b < s.heap.size) (hi : 0 ≤ i) (hi5 : i + 5 < L9) (hL9 : L9 ≤ 3072) (hRf : 401 ≤ R.frames) (hRl : 16039 ≤ R.locals) (hkc : kc + 1 ≤ R.cells) (hks : ks + 6 ≤ R.slots) (hrel : Rel σ τ) (kk : ∀ (σ' τ' : Sg) (ov' : Int), Rel σ' τ' → Rg p l e R s m args below meth c (PwL D cI cZ cJ s ax am ao b σ' τ' ov') (kc + 1) (ks + 6) Q 7 2081 (Lw i) []) : Rg p l e R s m args below meth c (PwL D cI cZ cJ s ax am ao b σ τ ov) kc ks Q 7 1640 (Lw i) [] := by
  refine rl_inR (fun hrs hrt => ?_)
  obtain ⟨h1, h2⟩ := h σ τ hrel hrs hrt
  refine rl_widen (Nat.le_succ kc) (show ks ≤ ks + 6 by omega) ?_
  refine rg_aload_n ⟨hC.1, hC.2.1⟩ dl_1640 rfl ?_
  refine rl_x (M1 := m_X10_tests) (vs := []) (d1 := 400) hC hRf hRl dl_1641 ln_12_165 im_X10_tests mk_X10_tests rfl rfl (Nat.le_of_ble_eq_true rfl) hkc hks (lk_X10_tests l 400 (by omega) σ _ rfl) ?_ _ rfl
  refine rg_aload_n ⟨hC.1, hC.2.1⟩ dl_1644 rfl ?_
  refine rl_m (M1 := m_X11_tests) (vs := []) (d1 := 400) hC hRf hRl dl_1645 ln_12_168 im_X11_tests mk_X11_tests rfl rfl (Nat.le_of_ble_eq_true rfl) hkc hks (lk_X11_tests l 400 (by omega) τ _ rfl) ?_ _ rfl
  exact rg_icmp_eq ⟨hC.1, hC.2.1⟩ dl_1648 (by rfl) (fun _ => kk _ _ _ h2) (fun h9 => absurd h1 h9)
def Op_views (Rel : Sg → Sg → Prop) : Prop := ∀ (σ τ : Sg), Rel σ τ → inRs σ → inRs τ → F_X10_views σ = (F_X11_views τ).1 ∧ Rel σ (F_X11_views τ).2
theorem lc_views (Rel : Sg → Sg → Prop) (h : Op_views Rel) (hC : Cx 12 code 7 false p s m args meth c (AL s) D cI cZ) (hK : KO D cI cZ cJ s) (hT : TH (AL s) s s.heap) (hl : l.stackTraces = false) {xs : Nat → Int32} {L9 : Nat} {i : Int} (hX : va_X b L9 xs s s.heap) (hbl : b < s.heap.size) (hi : 0 ≤ i) (hi5 : i + 5 < L9) (hL9 : L9 ≤ 3072) (hRf : 401 ≤ R.frames) (hRl : 16039 ≤ R.locals) (hkc : kc + 1 ≤ R.cells) (hks : ks + 6 ≤ R.slots) (hrel : Rel σ τ) (kk : ∀ (σ' τ' : Sg) (ov' : Int), Rel σ' τ' → Rg p l e R s m args below meth c (PwL D cI cZ cJ s ax am ao b σ' τ' ov') (kc + 1) (ks + 6) Q 7 2081 (Lw i) []) : Rg p l e R s m args below meth c (PwL D cI cZ cJ s ax am ao b σ τ ov) kc ks Q 7 1653 (Lw i) [] := by
  refine rl_inR (fun hrs hrt => ?_)
  obtain ⟨h1, h2⟩ := h σ τ hrel hrs hrt
  refine rl_widen (Nat.le_succ kc) (show ks ≤ ks + 6 by omega) ?_
  refine rg_aload_n ⟨hC.1, hC.2.1⟩ dl_1653 rfl ?_
  refine rl_x (M1 := m_X10_views) (vs := []) (d1 := 400) hC hRf hRl dl_1654 ln_12_169 im_X10_views mk_X10_views rfl rfl (Nat.le_of_ble_eq_true rfl) hkc hks (lk_X10_views l 400 (by omega) σ _ rfl) ?_ _ rfl
  refine rg_aload_n ⟨hC.1, hC.2.1⟩ dl_1657 rfl ?_
  refine rl_m (M1 := m_X11_views) (vs := []) (d1 := 400) hC hRf hRl dl_1658 ln_12_172 im_X11_views mk_X11_views rfl rfl (Nat.le_of_ble_eq_true rfl) hkc hks (lk_X11_views l 400 (by omega) τ _ rfl) ?_ _ rfl
  exact rg_icmp_eq ⟨hC.1, hC.2.1⟩ dl_1661 (by rfl) (fun _ => kk _ _ _ h2) (fun h9 => absurd h1 h9)
def Op_viewAt (Rel : Sg → Sg → Prop) : Prop := ∀ (σ τ : Sg) (a1 : Int), Rel σ τ → inR a1 → inRs σ → inRs τ → ∃ q r, F_X10_viewAt a1 σ = some q ∧ F_X11_viewAt a1 τ = some r ∧ Ag [(0, 1)] q.1 r.1 (r.2 0 0) ∧ Rel q.2 r.2
theorem lnh_viewAt : Cond.methodLink (ownN 12) 173 yL_viewAt ∈ TB := tb_at 1291 (by decide +kernel) (by decide +kernel)
set_option maxHeartbeats 4000000 in
theorem lc_viewAt (Rel : Sg → Sg → Prop) (h : Op_viewAt Rel) (hC : Cx 12 code 7 false p s m args meth c (AL s) D cI cZ) (hK : KO D cI cZ cJ s) (hT : TH (AL s) s s.heap) (hl : l.stackTraces = false) {xs : Nat → Int32} {L9 : Nat} {i : Int} (hX : va_X b L9 xs s s.heap) (hbl : b < s.heap.size) (hi : 0 ≤ i) (hi5 : i + 5 < L9) (hL9 : L9 ≤ 3072) (hRf : 401 ≤ R.frames) (hRl : 16039 ≤ R.locals) (hkc : kc + 1 ≤ R.cells) (hks : ks + 6 ≤ R.slots) (hrel : Rel σ τ) (kk : ∀ (σ' τ' : Sg) (ov' : Int), Rel σ' τ' → Rg p l e R s m args below meth c (PwL D cI cZ cJ s ax am ao b σ' τ' ov') (kc + 1) (ks + 6) Q 7 2081 (Lw i) []) : Rg p l e R s m args below meth c (PwL D cI cZ cJ s ax am ao b σ τ ov) kc ks Q 7 1666 (Lw i) [] := by
  refine rl_inR (fun hrs hrt => ?_)
  obtain ⟨q, r, hq, hr, hag, hrel2⟩ := h σ τ ((xs (i + (1 : Nat)).toNat).toInt) hrel (i32_toInt_in _) hrs hrt
  obtain ⟨ov2, hkw, hov, hin⟩ := ag_kw (ov := ov) hag
  refine rg_aload_n ⟨hC.1, hC.2.1⟩ dl_1666 rfl ?_
  refine rl_arg (j := 1) hC hX hbl hi hi5 hL9 (by decide) rfl rfl (by decide +kernel : argOK code 1667 1 = true) ?_
  refine rg_aload_n ⟨hC.1, hC.2.1⟩ dl_1673 rfl ?_
  refine rl_help (n := 3) (d1 := 400) (vs := [(xs (i + (1 : Nat)).toNat).toInt]) (k := r.2 0 0) (σ' := q.2) (ov' := ov2) hC hK hT hRf hRl dl_1674 lnh_viewAt cw_viewAt sw_viewAt inL (by decide) ⟨by decide, by decide, by decide +kernel⟩ rfl (Nat.le_of_ble_eq_true rfl) hkc hks (wc_viewAt l hl 400 (by omega) ((xs (i + (1 : Nat)).toNat).toInt) σ ov _ _ q hq hkw) ?_ hin _ rfl
  refine rg_istore ⟨hC.1, hC.2.1⟩ dl_1677 (Nat.le_of_ble_eq_true rfl) ?_
  refine rg_aload_n ⟨hC.1, hC.2.1⟩ dl_1679 rfl ?_
  refine rl_arg (j := 1) hC hX hbl hi hi5 hL9 (by decide) rfl rfl (by decide +kernel : argOK code 1680 1 = true) ?_
  refine rl_m (M1 := m_X11_viewAt) (vs := [(xs (i + (1 : Nat)).toNat).toInt]) (d1 := 400) hC hRf hRl dl_1686 ln_12_175 im_X11_viewAt mk_X11_viewAt rfl rfl (Nat.le_of_ble_eq_true rfl) hkc hks (lk_X11_viewAt l 400 (by omega) ((xs (i + (1 : Nat)).toNat).toInt) τ r hr) ?_ _ rfl
  refine rg_istore ⟨hC.1, hC.2.1⟩ dl_1689 (Nat.le_of_ble_eq_true rfl) ?_
  refine rg_aload_n ⟨hC.1, hC.2.1⟩ dl_1691 rfl ?_
  refine rl_m (M1 := m_X11_thrown) (vs := []) (d1 := 400) hC hRf hRl dl_1692 ln_12_107 im_X11_thrown mk_X11_thrown rfl rfl (Nat.le_of_ble_eq_true rfl) hkc hks (lk_X11_thrown l 400 (by omega) r.2 _ rfl) ?_ _ rfl
  refine rg_iload ⟨hC.1, hC.2.1⟩ dl_1695 rfl ?_
  refine rg_icmp_eq ⟨hC.1, hC.2.1⟩ dl_1697 (by rfl) (fun _ => ?_) (fun h9 => absurd rfl h9)
  refine rg_iload ⟨hC.1, hC.2.1⟩ dl_1702 rfl ?_
  refine rg_if_ne ⟨hC.1, hC.2.1⟩ dl_1704 (by rfl) (fun _ => ?_) (fun h0 => ?_)
  · exact rg_goto ⟨hC.1, hC.2.1⟩ dl_1719 (by rfl) (rg_weak (L' := Lw i) (Nat.le_of_ble_eq_true rfl) lw_weak (kk _ _ _ hrel2))
  · refine rg_aload_n ⟨hC.1, hC.2.1⟩ dl_1707 rfl ?_
    refine rg_iconst ⟨hC.1, hC.2.1⟩ dl_1708 in0 ?_
    obtain rfl := hov h0
    refine rl_cmp (tgt := 1719) hC hK dl_1709 dl_1710 rfl dl_1712 dl_1713 dl_1714 (by rfl) ?_
    exact rg_goto ⟨hC.1, hC.2.1⟩ dl_1719 (by rfl) (rg_weak (L' := Lw i) (Nat.le_of_ble_eq_true rfl) lw_weak (kk _ _ _ hrel2))
def Op_bound (Rel : Sg → Sg → Prop) : Prop := ∀ (σ τ : Sg) (a1 : Int), Rel σ τ → inR a1 → inRs σ → inRs τ → ∃ q r, F_X10_bound a1 σ = some q ∧ F_X11_bound a1 τ = some r ∧ Ag [(0, 1)] q.1 r.1 (r.2 0 0) ∧ Rel q.2 r.2
theorem lnh_bound : Cond.methodLink (ownN 12) 176 yL_bound ∈ TB := tb_at 1302 (by decide +kernel) (by decide +kernel)
set_option maxHeartbeats 4000000 in
theorem lc_bound (Rel : Sg → Sg → Prop) (h : Op_bound Rel) (hC : Cx 12 code 7 false p s m args meth c (AL s) D cI cZ) (hK : KO D cI cZ cJ s) (hT : TH (AL s) s s.heap) (hl : l.stackTraces = false) {xs : Nat → Int32} {L9 : Nat} {i : Int} (hX : va_X b L9 xs s s.heap) (hbl : b < s.heap.size) (hi : 0 ≤ i) (hi5 : i + 5 < L9) (hL9 : L9 ≤ 3072) (hRf : 401 ≤ R.frames) (hRl : 16039 ≤ R.locals) (hkc : kc + 1 ≤ R.cells) (hks : ks + 6 ≤ R.slots) (hrel : Rel σ τ) (kk : ∀ (σ' τ' : Sg) (ov' : Int), Rel σ' τ' → Rg p l e R s m args below meth c (PwL D cI cZ cJ s ax am ao b σ' τ' ov') (kc + 1) (ks + 6) Q 7 2081 (Lw i) []) : Rg p l e R s m args below meth c (PwL D cI cZ cJ s ax am ao b σ τ ov) kc ks Q 7 1722 (Lw i) [] := by
  refine rl_inR (fun hrs hrt => ?_)
  obtain ⟨q, r, hq, hr, hag, hrel2⟩ := h σ τ ((xs (i + (1 : Nat)).toNat).toInt) hrel (i32_toInt_in _) hrs hrt
  obtain ⟨ov2, hkw, hov, hin⟩ := ag_kw (ov := ov) hag
  refine rg_aload_n ⟨hC.1, hC.2.1⟩ dl_1722 rfl ?_
  refine rl_arg (j := 1) hC hX hbl hi hi5 hL9 (by decide) rfl rfl (by decide +kernel : argOK code 1723 1 = true) ?_
  refine rg_aload_n ⟨hC.1, hC.2.1⟩ dl_1729 rfl ?_
  refine rl_help (n := 3) (d1 := 400) (vs := [(xs (i + (1 : Nat)).toNat).toInt]) (k := r.2 0 0) (σ' := q.2) (ov' := ov2) hC hK hT hRf hRl dl_1730 lnh_bound cw_bound sw_bound inL (by decide) ⟨by decide, by decide, by decide +kernel⟩ rfl (Nat.le_of_ble_eq_true rfl) hkc hks (wc_bound l hl 400 (by omega) ((xs (i + (1 : Nat)).toNat).toInt) σ ov _ _ q hq hkw) ?_ hin _ rfl
  refine rg_istore ⟨hC.1, hC.2.1⟩ dl_1733 (Nat.le_of_ble_eq_true rfl) ?_
  refine rg_aload_n ⟨hC.1, hC.2.1⟩ dl_1735 rfl ?_
  refine rl_arg (j := 1) hC hX hbl hi hi5 hL9 (by decide) rfl rfl (by decide +kernel : argOK code 1736 1 = true) ?_
  refine rl_m (M1 := m_X11_bound) (vs := [(xs (i + (1 : Nat)).toNat).toInt]) (d1 := 400) hC hRf hRl dl_1742 ln_12_178 im_X11_bound mk_X11_bound rfl rfl (Nat.le_of_ble_eq_true rfl) hkc hks (lk_X11_bound l 400 (by omega) ((xs (i + (1 : Nat)).toNat).toInt) τ r hr) ?_ _ rfl
  refine rg_istore ⟨hC.1, hC.2.1⟩ dl_1745 (Nat.le_of_ble_eq_true rfl) ?_
  refine rg_aload_n ⟨hC.1, hC.2.1⟩ dl_1747 rfl ?_
  refine rl_m (M1 := m_X11_thrown) (vs := []) (d1 := 400) hC hRf hRl dl_1748 ln_12_107 im_X11_thrown mk_X11_thrown rfl rfl (Nat.le_of_ble_eq_true rfl) hkc hks (lk_X11_thrown l 400 (by omega) r.2 _ rfl) ?_ _ rfl
  refine rg_iload ⟨hC.1, hC.2.1⟩ dl_1751 rfl ?_
  refine rg_icmp_eq ⟨hC.1, hC.2.1⟩ dl_1753 (by rfl) (fun _ => ?_) (fun h9 => absurd rfl h9)
  refine rg_iload ⟨hC.1, hC.2.1⟩ dl_1758 rfl ?_
  refine rg_if_ne ⟨hC.1, hC.2.1⟩ dl_1760 (by rfl) (fun _ => ?_) (fun h0 => ?_)
  · exact rg_goto ⟨hC.1, hC.2.1⟩ dl_1775 (by rfl) (rg_weak (L' := Lw i) (Nat.le_of_ble_eq_true rfl) lw_weak (kk _ _ _ hrel2))
  · refine rg_aload_n ⟨hC.1, hC.2.1⟩ dl_1763 rfl ?_
    refine rg_iconst ⟨hC.1, hC.2.1⟩ dl_1764 in0 ?_
    obtain rfl := hov h0
    refine rl_cmp (tgt := 1775) hC hK dl_1765 dl_1766 rfl dl_1768 dl_1769 dl_1770 (by rfl) ?_
    exact rg_goto ⟨hC.1, hC.2.1⟩ dl_1775 (by rfl) (rg_weak (L' := Lw i) (Nat.le_of_ble_eq_true rfl) lw_weak (kk _ _ _ hrel2))
def Op_taken (Rel : Sg → Sg → Prop) : Prop := ∀ (σ τ : Sg) (a1 : Int), Rel σ τ → inR a1 → inRs σ → inRs τ → ∃ q r, F_X10_taken a1 σ = some q ∧ F_X11_taken a1 τ = some r ∧ Ag [(0, 1)] q.1 r.1 (r.2 0 0) ∧ Rel q.2 r.2
theorem lnh_taken : Cond.methodLink (ownN 12) 179 yL_taken ∈ TB := tb_at 1310 (by decide +kernel) (by decide +kernel)
set_option maxHeartbeats 4000000 in
theorem lc_taken (Rel : Sg → Sg → Prop) (h : Op_taken Rel) (hC : Cx 12 code 7 false p s m args meth c (AL s) D cI cZ) (hK : KO D cI cZ cJ s) (hT : TH (AL s) s s.heap) (hl : l.stackTraces = false) {xs : Nat → Int32} {L9 : Nat} {i : Int} (hX : va_X b L9 xs s s.heap) (hbl : b < s.heap.size) (hi : 0 ≤ i) (hi5 : i + 5 < L9) (hL9 : L9 ≤ 3072) (hRf : 401 ≤ R.frames) (hRl : 16039 ≤ R.locals) (hkc : kc + 1 ≤ R.cells) (hks : ks + 6 ≤ R.slots) (hrel : Rel σ τ) (kk : ∀ (σ' τ' : Sg) (ov' : Int), Rel σ' τ' → Rg p l e R s m args below meth c (PwL D cI cZ cJ s ax am ao b σ' τ' ov') (kc + 1) (ks + 6) Q 7 2081 (Lw i) []) : Rg p l e R s m args below meth c (PwL D cI cZ cJ s ax am ao b σ τ ov) kc ks Q 7 1778 (Lw i) [] := by
  refine rl_inR (fun hrs hrt => ?_)
  obtain ⟨q, r, hq, hr, hag, hrel2⟩ := h σ τ ((xs (i + (1 : Nat)).toNat).toInt) hrel (i32_toInt_in _) hrs hrt
  obtain ⟨ov2, hkw, hov, hin⟩ := ag_kw (ov := ov) hag
  refine rg_aload_n ⟨hC.1, hC.2.1⟩ dl_1778 rfl ?_
  refine rl_arg (j := 1) hC hX hbl hi hi5 hL9 (by decide) rfl rfl (by decide +kernel : argOK code 1779 1 = true) ?_
  refine rg_aload_n ⟨hC.1, hC.2.1⟩ dl_1785 rfl ?_
  refine rl_help (n := 3) (d1 := 400) (vs := [(xs (i + (1 : Nat)).toNat).toInt]) (k := r.2 0 0) (σ' := q.2) (ov' := ov2) hC hK hT hRf hRl dl_1786 lnh_taken cw_taken sw_taken inL (by decide) ⟨by decide, by decide, by decide +kernel⟩ rfl (Nat.le_of_ble_eq_true rfl) hkc hks (wc_taken l hl 400 (by omega) ((xs (i + (1 : Nat)).toNat).toInt) σ ov _ _ q hq hkw) ?_ hin _ rfl
  refine rg_istore ⟨hC.1, hC.2.1⟩ dl_1789 (Nat.le_of_ble_eq_true rfl) ?_
  refine rg_aload_n ⟨hC.1, hC.2.1⟩ dl_1791 rfl ?_
  refine rl_arg (j := 1) hC hX hbl hi hi5 hL9 (by decide) rfl rfl (by decide +kernel : argOK code 1792 1 = true) ?_
  refine rl_m (M1 := m_X11_taken) (vs := [(xs (i + (1 : Nat)).toNat).toInt]) (d1 := 400) hC hRf hRl dl_1798 ln_12_181 im_X11_taken mk_X11_taken rfl rfl (Nat.le_of_ble_eq_true rfl) hkc hks (lk_X11_taken l 400 (by omega) ((xs (i + (1 : Nat)).toNat).toInt) τ r hr) ?_ _ rfl
  refine rg_istore ⟨hC.1, hC.2.1⟩ dl_1801 (Nat.le_of_ble_eq_true rfl) ?_
  refine rg_aload_n ⟨hC.1, hC.2.1⟩ dl_1803 rfl ?_
  refine rl_m (M1 := m_X11_thrown) (vs := []) (d1 := 400) hC hRf hRl dl_1804 ln_12_107 im_X11_thrown mk_X11_thrown rfl rfl (Nat.le_of_ble_eq_true rfl) hkc hks (lk_X11_thrown l 400 (by omega) r.2 _ rfl) ?_ _ rfl
  refine rg_iload ⟨hC.1, hC.2.1⟩ dl_1807 rfl ?_
  refine rg_icmp_eq ⟨hC.1, hC.2.1⟩ dl_1809 (by rfl) (fun _ => ?_) (fun h9 => absurd rfl h9)
  refine rg_iload ⟨hC.1, hC.2.1⟩ dl_1814 rfl ?_
  refine rg_if_ne ⟨hC.1, hC.2.1⟩ dl_1816 (by rfl) (fun _ => ?_) (fun h0 => ?_)
  · exact rg_goto ⟨hC.1, hC.2.1⟩ dl_1831 (by rfl) (rg_weak (L' := Lw i) (Nat.le_of_ble_eq_true rfl) lw_weak (kk _ _ _ hrel2))
  · refine rg_aload_n ⟨hC.1, hC.2.1⟩ dl_1819 rfl ?_
    refine rg_iconst ⟨hC.1, hC.2.1⟩ dl_1820 in0 ?_
    obtain rfl := hov h0
    refine rl_cmp (tgt := 1831) hC hK dl_1821 dl_1822 rfl dl_1824 dl_1825 dl_1826 (by rfl) ?_
    exact rg_goto ⟨hC.1, hC.2.1⟩ dl_1831 (by rfl) (rg_weak (L' := Lw i) (Nat.le_of_ble_eq_true rfl) lw_weak (kk _ _ _ hrel2))
def Op_size (Rel : Sg → Sg → Prop) : Prop := ∀ (σ τ : Sg) (a1 : Int) (a2 : Bool), Rel σ τ → inR a1 → inRs σ → inRs τ → ∃ q r, F_X10_size a1 a2 σ = some q ∧ F_X11_size a1 a2 τ = some r ∧ Ag [(0, 1), (2, 2)] q.1 r.1 (r.2 0 0) ∧ Rel q.2 r.2
theorem lnh_size : Cond.methodLink (ownN 12) 182 yL_size ∈ TB := tb_at 1317 (by decide +kernel) (by decide +kernel)
set_option maxHeartbeats 4000000 in
theorem lc_size (Rel : Sg → Sg → Prop) (h : Op_size Rel) (hC : Cx 12 code 7 false p s m args meth c (AL s) D cI cZ) (hK : KO D cI cZ cJ s) (hT : TH (AL s) s s.heap) (hl : l.stackTraces = false) {xs : Nat → Int32} {L9 : Nat} {i : Int} (hX : va_X b L9 xs s s.heap) (hbl : b < s.heap.size) (hi : 0 ≤ i) (hi5 : i + 5 < L9) (hL9 : L9 ≤ 3072) (hRf : 401 ≤ R.frames) (hRl : 16039 ≤ R.locals) (hkc : kc + 1 ≤ R.cells) (hks : ks + 6 ≤ R.slots) (hrel : Rel σ τ) (kk : ∀ (σ' τ' : Sg) (ov' : Int), Rel σ' τ' → Rg p l e R s m args below meth c (PwL D cI cZ cJ s ax am ao b σ' τ' ov') (kc + 1) (ks + 6) Q 7 2081 (Lw i) []) : Rg p l e R s m args below meth c (PwL D cI cZ cJ s ax am ao b σ τ ov) kc ks Q 7 1834 (Lw i) [] := by
  refine rl_inR (fun hrs hrt => ?_)
  obtain ⟨q, r, hq, hr, hag, hrel2⟩ := h σ τ ((xs (i + (1 : Nat)).toNat).toInt) (decide (¬ (xs (i + (2 : Nat)).toNat).toInt = 0)) hrel (i32_toInt_in _) hrs hrt
  obtain ⟨ov2, hkw, hov, hin⟩ := ag_kw (ov := ov) hag
  refine rg_aload_n ⟨hC.1, hC.2.1⟩ dl_1834 rfl ?_
  refine rl_arg (j := 1) hC hX hbl hi hi5 hL9 (by decide) rfl rfl (by decide +kernel : argOK code 1835 1 = true) ?_
  refine rl_arg (j := 2) hC hX hbl hi hi5 hL9 (by decide) rfl rfl (by decide +kernel : argOK code 1841 2 = true) ?_
  refine rl_bool hC dl_1847 dl_1850 dl_1851 dl_1854 ?_
  refine rg_aload_n ⟨hC.1, hC.2.1⟩ dl_1855 rfl ?_
  refine rl_help (n := 4) (d1 := 400) (vs := [(xs (i + (1 : Nat)).toNat).toInt, b2i (decide (¬ (xs (i + (2 : Nat)).toNat).toInt = 0))]) (k := r.2 0 0) (σ' := q.2) (ov' := ov2) hC hK hT hRf hRl dl_1856 lnh_size cw_size sw_size inL (by decide) ⟨by decide, by decide, by decide +kernel⟩ rfl (Nat.le_of_ble_eq_true rfl) hkc hks (wc_size l hl 400 (by omega) ((xs (i + (1 : Nat)).toNat).toInt) (decide (¬ (xs (i + (2 : Nat)).toNat).toInt = 0)) σ ov _ _ q hq hkw) ?_ hin _ rfl
  refine rg_istore ⟨hC.1, hC.2.1⟩ dl_1859 (Nat.le_of_ble_eq_true rfl) ?_
  refine rg_aload_n ⟨hC.1, hC.2.1⟩ dl_1861 rfl ?_
  refine rl_arg (j := 1) hC hX hbl hi hi5 hL9 (by decide) rfl rfl (by decide +kernel : argOK code 1862 1 = true) ?_
  refine rl_arg (j := 2) hC hX hbl hi hi5 hL9 (by decide) rfl rfl (by decide +kernel : argOK code 1868 2 = true) ?_
  refine rl_bool hC dl_1874 dl_1877 dl_1878 dl_1881 ?_
  refine rl_m (M1 := m_X11_size) (vs := [(xs (i + (1 : Nat)).toNat).toInt, b2i (decide (¬ (xs (i + (2 : Nat)).toNat).toInt = 0))]) (d1 := 400) hC hRf hRl dl_1882 ln_12_185 im_X11_size mk_X11_size rfl rfl (Nat.le_of_ble_eq_true rfl) hkc hks (lk_X11_size l 400 (by omega) ((xs (i + (1 : Nat)).toNat).toInt) (decide (¬ (xs (i + (2 : Nat)).toNat).toInt = 0)) τ r hr) ?_ _ rfl
  refine rg_istore ⟨hC.1, hC.2.1⟩ dl_1885 (Nat.le_of_ble_eq_true rfl) ?_
  refine rg_aload_n ⟨hC.1, hC.2.1⟩ dl_1887 rfl ?_
  refine rl_m (M1 := m_X11_thrown) (vs := []) (d1 := 400) hC hRf hRl dl_1888 ln_12_107 im_X11_thrown mk_X11_thrown rfl rfl (Nat.le_of_ble_eq_true rfl) hkc hks (lk_X11_thrown l 400 (by omega) r.2 _ rfl) ?_ _ rfl
  refine rg_iload ⟨hC.1, hC.2.1⟩ dl_1891 rfl ?_
  refine rg_icmp_eq ⟨hC.1, hC.2.1⟩ dl_1893 (by rfl) (fun _ => ?_) (fun h9 => absurd rfl h9)
  refine rg_iload ⟨hC.1, hC.2.1⟩ dl_1898 rfl ?_
  refine rg_if_ne ⟨hC.1, hC.2.1⟩ dl_1900 (by rfl) (fun _ => ?_) (fun h0 => ?_)
  · exact rg_goto ⟨hC.1, hC.2.1⟩ dl_1915 (by rfl) (rg_weak (L' := Lw i) (Nat.le_of_ble_eq_true rfl) lw_weak (kk _ _ _ hrel2))
  · refine rg_aload_n ⟨hC.1, hC.2.1⟩ dl_1903 rfl ?_
    refine rg_iconst ⟨hC.1, hC.2.1⟩ dl_1904 in0 ?_
    obtain rfl := hov h0
    refine rl_cmp (tgt := 1915) hC hK dl_1905 dl_1906 rfl dl_1908 dl_1909 dl_1910 (by rfl) ?_
    exact rg_goto ⟨hC.1, hC.2.1⟩ dl_1915 (by rfl) (rg_weak (L' := Lw i) (Nat.le_of_ble_eq_true rfl) lw_weak (kk _ _ _ hrel2))
def Op_missing (Rel : Sg → Sg → Prop) : Prop := ∀ (σ τ : Sg) , Rel σ τ →  inRs σ → inRs τ → ∃ q r, F_X10_missing  σ = some q ∧ F_X11_missing  τ = some r ∧ Ag [(2, 1)] q.1 r.1 (r.2 0 0) ∧ Rel q.2 r.2
theorem lnh_missing : Cond.methodLink (ownN 12) 186 yL_missing ∈ TB := tb_at 1344 (by decide +kernel) (by decide +kernel)
set_option maxHeartbeats 4000000 in
theorem lc_missing (Rel : Sg → Sg → Prop) (h : Op_missing Rel) (hC : Cx 12 code 7 false p s m args meth c (AL s) D cI cZ) (hK : KO D cI cZ cJ s) (hT : TH (AL s) s s.heap) (hl : l.stackTraces = false) {xs : Nat → Int32} {L9 : Nat} {i : Int} (hX : va_X b L9 xs s s.heap) (hbl : b < s.heap.size) (hi : 0 ≤ i) (hi5 : i + 5 < L9) (hL9 : L9 ≤ 3072) (hRf : 401 ≤ R.frames) (hRl : 16039 ≤ R.locals) (hkc : kc + 1 ≤ R.cells) (hks : ks + 6 ≤ R.slots) (hrel : Rel σ τ) (kk : ∀ (σ' τ' : Sg) (ov' : Int), Rel σ' τ' → Rg p l e R s m args below meth c (PwL D cI cZ cJ s ax am ao b σ' τ' ov') (kc + 1) (ks + 6) Q 7 2081 (Lw i) []) : Rg p l e R s m args below meth c (PwL D cI cZ cJ s ax am ao b σ τ ov) kc ks Q 7 1918 (Lw i) [] := by
  refine rl_inR (fun hrs hrt => ?_)
  obtain ⟨q, r, hq, hr, hag, hrel2⟩ := h σ τ  hrel  hrs hrt
  obtain ⟨ov2, hkw, hov, hin⟩ := ag_kw (ov := ov) hag
  refine rg_aload_n ⟨hC.1, hC.2.1⟩ dl_1918 rfl ?_
  refine rg_aload_n ⟨hC.1, hC.2.1⟩ dl_1919 rfl ?_
  refine rl_help (n := 2) (d1 := 400) (vs := []) (k := r.2 0 0) (σ' := q.2) (ov' := ov2) hC hK hT hRf hRl dl_1920 lnh_missing cw_missing sw_missing inL (by decide) ⟨by decide, by decide, by decide +kernel⟩ rfl (Nat.le_of_ble_eq_true rfl) hkc hks (wc_missing l hl 400 (by omega)  σ ov _ _ q hq hkw) ?_ hin _ rfl
  refine rg_istore ⟨hC.1, hC.2.1⟩ dl_1923 (Nat.le_of_ble_eq_true rfl) ?_
  refine rg_aload_n ⟨hC.1, hC.2.1⟩ dl_1925 rfl ?_
  refine rl_m (M1 := m_X11_missing) (vs := []) (d1 := 400) hC hRf hRl dl_1926 ln_12_188 im_X11_missing mk_X11_missing rfl rfl (Nat.le_of_ble_eq_true rfl) hkc hks (lk_X11_missing l 400 (by omega)  τ r hr) ?_ _ rfl
  refine rg_istore ⟨hC.1, hC.2.1⟩ dl_1929 (Nat.le_of_ble_eq_true rfl) ?_
  refine rg_aload_n ⟨hC.1, hC.2.1⟩ dl_1931 rfl ?_
  refine rl_m (M1 := m_X11_thrown) (vs := []) (d1 := 400) hC hRf hRl dl_1932 ln_12_107 im_X11_thrown mk_X11_thrown rfl rfl (Nat.le_of_ble_eq_true rfl) hkc hks (lk_X11_thrown l 400 (by omega) r.2 _ rfl) ?_ _ rfl
  refine rg_iload ⟨hC.1, hC.2.1⟩ dl_1935 rfl ?_
  refine rg_icmp_eq ⟨hC.1, hC.2.1⟩ dl_1937 (by rfl) (fun _ => ?_) (fun h9 => absurd rfl h9)
  refine rg_iload ⟨hC.1, hC.2.1⟩ dl_1942 rfl ?_
  refine rg_if_ne ⟨hC.1, hC.2.1⟩ dl_1944 (by rfl) (fun _ => ?_) (fun h0 => ?_)
  · exact rg_goto ⟨hC.1, hC.2.1⟩ dl_1959 (by rfl) (rg_weak (L' := Lw i) (Nat.le_of_ble_eq_true rfl) lw_weak (kk _ _ _ hrel2))
  · refine rg_aload_n ⟨hC.1, hC.2.1⟩ dl_1947 rfl ?_
    refine rg_iconst ⟨hC.1, hC.2.1⟩ dl_1948 in0 ?_
    obtain rfl := hov h0
    refine rl_cmp (tgt := 1959) hC hK dl_1949 dl_1950 rfl dl_1952 dl_1953 dl_1954 (by rfl) ?_
    exact rg_goto ⟨hC.1, hC.2.1⟩ dl_1959 (by rfl) (rg_weak (L' := Lw i) (Nat.le_of_ble_eq_true rfl) lw_weak (kk _ _ _ hrel2))
def Op_example (Rel : Sg → Sg → Prop) : Prop := ∀ (σ τ : Sg) (a1 : Int), Rel σ τ → inR a1 → inRs σ → inRs τ → ∃ q r, F_X10_example a1 σ = some q ∧ F_X11_example a1 τ = some r ∧ Ag [(2, 1)] q.1 r.1 (r.2 0 0) ∧ Rel q.2 r.2
theorem lnh_example : Cond.methodLink (ownN 12) 189 yL_example ∈ TB := tb_at 1355 (by decide +kernel) (by decide +kernel)
set_option maxHeartbeats 4000000 in
theorem lc_example (Rel : Sg → Sg → Prop) (h : Op_example Rel) (hC : Cx 12 code 7 false p s m args meth c (AL s) D cI cZ) (hK : KO D cI cZ cJ s) (hT : TH (AL s) s s.heap) (hl : l.stackTraces = false) {xs : Nat → Int32} {L9 : Nat} {i : Int} (hX : va_X b L9 xs s s.heap) (hbl : b < s.heap.size) (hi : 0 ≤ i) (hi5 : i + 5 < L9) (hL9 : L9 ≤ 3072) (hRf : 401 ≤ R.frames) (hRl : 16039 ≤ R.locals) (hkc : kc + 1 ≤ R.cells) (hks : ks + 6 ≤ R.slots) (hrel : Rel σ τ) (kk : ∀ (σ' τ' : Sg) (ov' : Int), Rel σ' τ' → Rg p l e R s m args below meth c (PwL D cI cZ cJ s ax am ao b σ' τ' ov') (kc + 1) (ks + 6) Q 7 2081 (Lw i) []) : Rg p l e R s m args below meth c (PwL D cI cZ cJ s ax am ao b σ τ ov) kc ks Q 7 1962 (Lw i) [] := by
  refine rl_inR (fun hrs hrt => ?_)
  obtain ⟨q, r, hq, hr, hag, hrel2⟩ := h σ τ ((xs (i + (1 : Nat)).toNat).toInt) hrel (i32_toInt_in _) hrs hrt
  obtain ⟨ov2, hkw, hov, hin⟩ := ag_kw (ov := ov) hag
  refine rg_aload_n ⟨hC.1, hC.2.1⟩ dl_1962 rfl ?_
  refine rl_arg (j := 1) hC hX hbl hi hi5 hL9 (by decide) rfl rfl (by decide +kernel : argOK code 1963 1 = true) ?_
  refine rg_aload_n ⟨hC.1, hC.2.1⟩ dl_1969 rfl ?_
  refine rl_help (n := 3) (d1 := 400) (vs := [(xs (i + (1 : Nat)).toNat).toInt]) (k := r.2 0 0) (σ' := q.2) (ov' := ov2) hC hK hT hRf hRl dl_1970 lnh_example cw_example sw_example inL (by decide) ⟨by decide, by decide, by decide +kernel⟩ rfl (Nat.le_of_ble_eq_true rfl) hkc hks (wc_example l hl 400 (by omega) ((xs (i + (1 : Nat)).toNat).toInt) σ ov _ _ q hq hkw) ?_ hin _ rfl
  refine rg_istore ⟨hC.1, hC.2.1⟩ dl_1973 (Nat.le_of_ble_eq_true rfl) ?_
  refine rg_aload_n ⟨hC.1, hC.2.1⟩ dl_1975 rfl ?_
  refine rl_arg (j := 1) hC hX hbl hi hi5 hL9 (by decide) rfl rfl (by decide +kernel : argOK code 1976 1 = true) ?_
  refine rl_m (M1 := m_X11_example) (vs := [(xs (i + (1 : Nat)).toNat).toInt]) (d1 := 400) hC hRf hRl dl_1982 ln_12_191 im_X11_example mk_X11_example rfl rfl (Nat.le_of_ble_eq_true rfl) hkc hks (lk_X11_example l 400 (by omega) ((xs (i + (1 : Nat)).toNat).toInt) τ r hr) ?_ _ rfl
  refine rg_istore ⟨hC.1, hC.2.1⟩ dl_1985 (Nat.le_of_ble_eq_true rfl) ?_
  refine rg_aload_n ⟨hC.1, hC.2.1⟩ dl_1987 rfl ?_
  refine rl_m (M1 := m_X11_thrown) (vs := []) (d1 := 400) hC hRf hRl dl_1988 ln_12_107 im_X11_thrown mk_X11_thrown rfl rfl (Nat.le_of_ble_eq_true rfl) hkc hks (lk_X11_thrown l 400 (by omega) r.2 _ rfl) ?_ _ rfl
  refine rg_iload ⟨hC.1, hC.2.1⟩ dl_1991 rfl ?_
  refine rg_icmp_eq ⟨hC.1, hC.2.1⟩ dl_1993 (by rfl) (fun _ => ?_) (fun h9 => absurd rfl h9)
  refine rg_iload ⟨hC.1, hC.2.1⟩ dl_1998 rfl ?_
  refine rg_if_ne ⟨hC.1, hC.2.1⟩ dl_2000 (by rfl) (fun _ => ?_) (fun h0 => ?_)
  · exact rg_goto ⟨hC.1, hC.2.1⟩ dl_2015 (by rfl) (rg_weak (L' := Lw i) (Nat.le_of_ble_eq_true rfl) lw_weak (kk _ _ _ hrel2))
  · refine rg_aload_n ⟨hC.1, hC.2.1⟩ dl_2003 rfl ?_
    refine rg_iconst ⟨hC.1, hC.2.1⟩ dl_2004 in0 ?_
    obtain rfl := hov h0
    refine rl_cmp (tgt := 2015) hC hK dl_2005 dl_2006 rfl dl_2008 dl_2009 dl_2010 (by rfl) ?_
    exact rg_goto ⟨hC.1, hC.2.1⟩ dl_2015 (by rfl) (rg_weak (L' := Lw i) (Nat.le_of_ble_eq_true rfl) lw_weak (kk _ _ _ hrel2))
def Op_isUsed (Rel : Sg → Sg → Prop) : Prop := ∀ (σ τ : Sg) (a1 : Int), Rel σ τ → inR a1 → inRs σ → inRs τ → ∃ q r, F_X10_isUsed a1 σ = some q ∧ F_X11_isUsed a1 τ = some r ∧ AgB [(0, 1), (2, 2)] q.1 r.1 (r.2 0 0) ∧ Rel q.2 r.2
theorem lnh_isUsed : Cond.methodLink (ownN 12) 192 yL_isUsed ∈ TB := tb_at 1370 (by decide +kernel) (by decide +kernel)
set_option maxHeartbeats 4000000 in
theorem lc_isUsed (Rel : Sg → Sg → Prop) (h : Op_isUsed Rel) (hC : Cx 12 code 7 false p s m args meth c (AL s) D cI cZ) (hK : KO D cI cZ cJ s) (hT : TH (AL s) s s.heap) (hl : l.stackTraces = false) {xs : Nat → Int32} {L9 : Nat} {i : Int} (hX : va_X b L9 xs s s.heap) (hbl : b < s.heap.size) (hi : 0 ≤ i) (hi5 : i + 5 < L9) (hL9 : L9 ≤ 3072) (hRf : 401 ≤ R.frames) (hRl : 16039 ≤ R.locals) (hkc : kc + 1 ≤ R.cells) (hks : ks + 6 ≤ R.slots) (hrel : Rel σ τ) (kk : ∀ (σ' τ' : Sg) (ov' : Int), Rel σ' τ' → Rg p l e R s m args below meth c (PwL D cI cZ cJ s ax am ao b σ' τ' ov') (kc + 1) (ks + 6) Q 7 2081 (Lw i) []) : Rg p l e R s m args below meth c (PwL D cI cZ cJ s ax am ao b σ τ ov) kc ks Q 7 2018 (Lw i) [] := by
  refine rl_inR (fun hrs hrt => ?_)
  obtain ⟨q, r, hq, hr, hag, hrel2⟩ := h σ τ ((xs (i + (1 : Nat)).toNat).toInt) hrel (i32_toInt_in _) hrs hrt
  obtain ⟨ov2, hkw, hov, hin⟩ := ag_kwB (ov := ov) hag
  refine rg_aload_n ⟨hC.1, hC.2.1⟩ dl_2018 rfl ?_
  refine rl_arg (j := 1) hC hX hbl hi hi5 hL9 (by decide) rfl rfl (by decide +kernel : argOK code 2019 1 = true) ?_
  refine rg_aload_n ⟨hC.1, hC.2.1⟩ dl_2025 rfl ?_
  refine rl_help (n := 3) (d1 := 400) (vs := [(xs (i + (1 : Nat)).toNat).toInt]) (k := r.2 0 0) (σ' := q.2) (ov' := ov2) hC hK hT hRf hRl dl_2026 lnh_isUsed cw_isUsed sw_isUsed inL (by decide) ⟨by decide, by decide, by decide +kernel⟩ rfl (Nat.le_of_ble_eq_true rfl) hkc hks (wc_isUsed l hl 400 (by omega) ((xs (i + (1 : Nat)).toNat).toInt) σ ov _ _ q hq hkw) ?_ hin _ rfl
  refine rg_istore ⟨hC.1, hC.2.1⟩ dl_2029 (Nat.le_of_ble_eq_true rfl) ?_
  refine rg_aload_n ⟨hC.1, hC.2.1⟩ dl_2031 rfl ?_
  refine rl_arg (j := 1) hC hX hbl hi hi5 hL9 (by decide) rfl rfl (by decide +kernel : argOK code 2032 1 = true) ?_
  refine rl_m (M1 := m_X11_isUsed) (vs := [(xs (i + (1 : Nat)).toNat).toInt]) (d1 := 400) hC hRf hRl dl_2038 ln_12_194 im_X11_isUsed mk_X11_isUsed rfl rfl (Nat.le_of_ble_eq_true rfl) hkc hks (lk_X11_isUsed l 400 (by omega) ((xs (i + (1 : Nat)).toNat).toInt) τ r hr) ?_ _ rfl
  refine rg_istore ⟨hC.1, hC.2.1⟩ dl_2041 (Nat.le_of_ble_eq_true rfl) ?_
  refine rg_aload_n ⟨hC.1, hC.2.1⟩ dl_2043 rfl ?_
  refine rl_m (M1 := m_X11_thrown) (vs := []) (d1 := 400) hC hRf hRl dl_2044 ln_12_107 im_X11_thrown mk_X11_thrown rfl rfl (Nat.le_of_ble_eq_true rfl) hkc hks (lk_X11_thrown l 400 (by omega) r.2 _ rfl) ?_ _ rfl
  refine rg_iload ⟨hC.1, hC.2.1⟩ dl_2047 rfl ?_
  refine rg_icmp_eq ⟨hC.1, hC.2.1⟩ dl_2049 (by rfl) (fun _ => ?_) (fun h9 => absurd rfl h9)
  refine rg_iload ⟨hC.1, hC.2.1⟩ dl_2054 rfl ?_
  refine rg_if_ne ⟨hC.1, hC.2.1⟩ dl_2056 (by rfl) (fun _ => ?_) (fun h0 => ?_)
  · exact rg_goto ⟨hC.1, hC.2.1⟩ dl_2078 (by rfl) (rg_weak (L' := Lw i) (Nat.le_of_ble_eq_true rfl) lw_weak (kk _ _ _ hrel2))
  · refine rg_aload_n ⟨hC.1, hC.2.1⟩ dl_2059 rfl ?_
    refine rg_iconst ⟨hC.1, hC.2.1⟩ dl_2060 in0 ?_
    obtain rfl := hov h0
    refine rl_cmpB (tgt := 2078) hC hK dl_2061 dl_2062 rfl dl_2064 (by rfl) dl_2067 dl_2068 (by rfl) dl_2071 rfl dl_2072 dl_2073 (by rfl) ?_
    exact rg_goto ⟨hC.1, hC.2.1⟩ dl_2078 (by rfl) (rg_weak (L' := Lw i) (Nat.le_of_ble_eq_true rfl) lw_weak (kk _ _ _ hrel2))
/-- what is to be shown of the two: all that the law asks -/
def AllOps (Rel : Sg → Sg → Prop) : Prop := Op_constructor Rel ∧ Op_num Rel ∧ Op_seq Rel ∧ Op_data Rel ∧ Op_any Rel ∧ Op_name Rel ∧ Op_range Rel ∧ Op_make Rel ∧ Op_either Rel ∧ Op_view Rel ∧ Op_list Rel ∧ Op_setView Rel ∧ Op_begin Rel ∧ Op_add Rel ∧ Op_guard Rel ∧ Op_split Rel ∧ Op_merge Rel ∧ Op_run Rel ∧ Op_tests Rel ∧ Op_views Rel ∧ Op_viewAt Rel ∧ Op_bound Rel ∧ Op_taken Rel ∧ Op_size Rel ∧ Op_missing Rel ∧ Op_example Rel ∧ Op_isUsed Rel
theorem lw_loop (Rel : Sg → Sg → Prop) (h : AllOps Rel) (hC : Cx 12 code 7 false p s m args meth c (AL s) D cI cZ) (hK : KO D cI cZ cJ s) (hT : TH (AL s) s s.heap) (hl : l.stackTraces = false) {xs : Nat → Int32} {L9 : Nat} (hX : va_X b L9 xs s s.heap) (hbl : b < s.heap.size) (hL9 : L9 ≤ 3072) (hRf : 401 ≤ R.frames) (hRl : 16039 ≤ R.locals)
    (kx : ∀ (σ τ : Sg) (ov i : Int), Rg p l e R s m args below meth c (PwL D cI cZ cJ s ax am ao b σ τ ov) R.cells R.slots Q 7 2087 (Lw i) []) : ∀ (n : Nat) (i : Int) (σ τ : Sg) (ov : Int) (kc ks : Nat), Rel σ τ → 0 ≤ i → i ≤ 3078 → (L9 : Int) < i + 6 * n + 6 → kc + n ≤ R.cells → ks + 6 * n ≤ R.slots → Rg p l e R s m args below meth c (PwL D cI cZ cJ s ax am ao b σ τ ov) kc ks Q 7 23 (Lw i) [] := by
  intro n
  induction n with
  | zero =>
    intro i σ τ ov kc ks hrel h0 h1 h2 h3 h4
    refine rg_iload ⟨hC.1, hC.2.1⟩ dl_23 rfl ?_
    refine rg_aload_n ⟨hC.1, hC.2.1⟩ dl_25 rfl ?_
    refine rl_slen hC hX hbl dl_26 hL9 ?_
    refine rg_bipush ⟨hC.1, hC.2.1⟩ dl_27 ⟨by decide, by decide⟩ (by decide) ?_
    refine rg_isub ⟨hC.1, hC.2.1⟩ dl_29 ?_
    rw [show wrap ((L9 : Int) - 6) = (L9 : Int) - 6 from by unfold wrap; omega]
    exact rg_icmp_gt ⟨hC.1, hC.2.1⟩ dl_30 (by rfl) (fun _ => rl_widen (by omega) (by omega) (kx _ _ _ _)) (fun h9 => absurd (show (L9 : Int) - 6 < i by omega) h9)
  | succ n ih =>
    intro i σ τ ov kc ks hrel h0 h1 h2 h3 h4
    refine rg_iload ⟨hC.1, hC.2.1⟩ dl_23 rfl ?_
    refine rg_aload_n ⟨hC.1, hC.2.1⟩ dl_25 rfl ?_
    refine rl_slen hC hX hbl dl_26 hL9 ?_
    refine rg_bipush ⟨hC.1, hC.2.1⟩ dl_27 ⟨by decide, by decide⟩ (by decide) ?_
    refine rg_isub ⟨hC.1, hC.2.1⟩ dl_29 ?_
    rw [show wrap ((L9 : Int) - 6) = (L9 : Int) - 6 from by unfold wrap; omega]
    refine rg_icmp_gt ⟨hC.1, hC.2.1⟩ dl_30 (by rfl) (fun _ => rl_widen (by omega) (by omega) (kx _ _ _ _)) (fun h9 => ?_)
    have hi5 : i + 5 < L9 := by omega
    refine rg_aload_n ⟨hC.1, hC.2.1⟩ dl_33 rfl ?_
    refine rg_iload ⟨hC.1, hC.2.1⟩ dl_34 rfl ?_
    refine rl_sld hC hX hbl dl_36 ⟨h0, by omega⟩ ?_
    refine rg_bipush ⟨hC.1, hC.2.1⟩ dl_37 ⟨by decide, by decide⟩ (by decide) ?_
    refine rg_iand ⟨hC.1, hC.2.1⟩ dl_39 ?_
    have next : ∀ (σ' τ' : Sg) (ov' : Int), Rel σ' τ' → Rg p l e R s m args below meth c (PwL D cI cZ cJ s ax am ao b σ' τ' ov') (kc + 1) (ks + 6) Q 7 2081 (Lw i) [] := by
      intro σ' τ' ov' hr'
      refine rg_iinc ⟨hC.1, hC.2.1⟩ dl_2081 rfl ?_
      rw [show wrap (i + 6) = i + 6 from by unfold wrap; omega]
      exact rg_goto ⟨hC.1, hC.2.1⟩ dl_2084 (by rfl) (ih (i + 6) σ' τ' ov' (kc + 1) (ks + 6) hr' (by omega) (by omega) (by omega) (by omega) (by omega))
    generalize jand (xs i.toNat).toInt 31 = x
    by_cases hx : x < 0 ∨ 26 < x
    · exact rg_tswOut ⟨hC.1, hC.2.1⟩ dl_40 hx (by rfl) (rl_widen (by omega) (by omega) (next _ _ _ hrel))
    · have hx2 : x = 0 ∨ x = 1 ∨ x = 2 ∨ x = 3 ∨ x = 4 ∨ x = 5 ∨ x = 6 ∨ x = 7 ∨ x = 8 ∨ x = 9 ∨ x = 10 ∨ x = 11 ∨ x = 12 ∨ x = 13 ∨ x = 14 ∨ x = 15 ∨ x = 16 ∨ x = 17 ∨ x = 18 ∨ x = 19 ∨ x = 20 ∨ x = 21 ∨ x = 22 ∨ x = 23 ∨ x = 24 ∨ x = 25 ∨ x = 26 := by omega
      obtain ⟨g0, g1, g2, g3, g4, g5, g6, g7, g8, g9, g10, g11, g12, g13, g14, g15, g16, g17, g18, g19, g20, g21, g22, g23, g24, g25, g26⟩ := h
      rcases hx2 with rfl | rfl | rfl | rfl | rfl | rfl | rfl | rfl | rfl | rfl | rfl | rfl | rfl | rfl | rfl | rfl | rfl | rfl | rfl | rfl | rfl | rfl | rfl | rfl | rfl | rfl | rfl
      · exact rg_tswIn ⟨hC.1, hC.2.1⟩ dl_40 (by decide) (by decide) (off := 124) (tgt := 164) rfl (by rfl) (lc_constructor Rel g0 hC hK hT hl hX hbl h0 hi5 hL9 hRf hRl (by omega) (by omega) hrel next)
      · exact rg_tswIn ⟨hC.1, hC.2.1⟩ dl_40 (by decide) (by decide) (off := 228) (tgt := 268) rfl (by rfl) (lc_num Rel g1 hC hK hT hl hX hbl h0 hi5 hL9 hRf hRl (by omega) (by omega) hrel next)
      · exact rg_tswIn ⟨hC.1, hC.2.1⟩ dl_40 (by decide) (by decide) (off := 284) (tgt := 324) rfl (by rfl) (lc_seq Rel g2 hC hK hT hl hX hbl h0 hi5 hL9 hRf hRl (by omega) (by omega) hrel next)
      · exact rg_tswIn ⟨hC.1, hC.2.1⟩ dl_40 (by decide) (by decide) (off := 376) (tgt := 416) rfl (by rfl) (lc_data Rel g3 hC hK hT hl hX hbl h0 hi5 hL9 hRf hRl (by omega) (by omega) hrel next)
      · exact rg_tswIn ⟨hC.1, hC.2.1⟩ dl_40 (by decide) (by decide) (off := 480) (tgt := 520) rfl (by rfl) (lc_any Rel g4 hC hK hT hl hX hbl h0 hi5 hL9 hRf hRl (by omega) (by omega) hrel next)
      · exact rg_tswIn ⟨hC.1, hC.2.1⟩ dl_40 (by decide) (by decide) (off := 524) (tgt := 564) rfl (by rfl) (lc_name Rel g5 hC hK hT hl hX hbl h0 hi5 hL9 hRf hRl (by omega) (by omega) hrel next)
      · exact rg_tswIn ⟨hC.1, hC.2.1⟩ dl_40 (by decide) (by decide) (off := 592) (tgt := 632) rfl (by rfl) (lc_range Rel g6 hC hK hT hl hX hbl h0 hi5 hL9 hRf hRl (by omega) (by omega) hrel next)
      · exact rg_tswIn ⟨hC.1, hC.2.1⟩ dl_40 (by decide) (by decide) (off := 660) (tgt := 700) rfl (by rfl) (lc_make Rel g7 hC hK hT hl hX hbl h0 hi5 hL9 hRf hRl (by omega) (by omega) hrel next)
      · exact rg_tswIn ⟨hC.1, hC.2.1⟩ dl_40 (by decide) (by decide) (off := 764) (tgt := 804) rfl (by rfl) (lc_either Rel g8 hC hK hT hl hX hbl h0 hi5 hL9 hRf hRl (by omega) (by omega) hrel next)
      · exact rg_tswIn ⟨hC.1, hC.2.1⟩ dl_40 (by decide) (by decide) (off := 832) (tgt := 872) rfl (by rfl) (lc_view Rel g9 hC hK hT hl hX hbl h0 hi5 hL9 hRf hRl (by omega) (by omega) hrel next)
      · exact rg_tswIn ⟨hC.1, hC.2.1⟩ dl_40 (by decide) (by decide) (off := 900) (tgt := 940) rfl (by rfl) (lc_list Rel g10 hC hK hT hl hX hbl h0 hi5 hL9 hRf hRl (by omega) (by omega) hrel next)
      · exact rg_tswIn ⟨hC.1, hC.2.1⟩ dl_40 (by decide) (by decide) (off := 992) (tgt := 1032) rfl (by rfl) (lc_setView Rel g11 hC hK hT hl hX hbl h0 hi5 hL9 hRf hRl (by omega) (by omega) hrel next)
      · exact rg_tswIn ⟨hC.1, hC.2.1⟩ dl_40 (by decide) (by decide) (off := 1096) (tgt := 1136) rfl (by rfl) (lc_begin Rel g12 hC hK hT hl hX hbl h0 hi5 hL9 hRf hRl (by omega) (by omega) hrel next)
      · exact rg_tswIn ⟨hC.1, hC.2.1⟩ dl_40 (by decide) (by decide) (off := 1188) (tgt := 1228) rfl (by rfl) (lc_add Rel g13 hC hK hT hl hX hbl h0 hi5 hL9 hRf hRl (by omega) (by omega) hrel next)
      · exact rg_tswIn ⟨hC.1, hC.2.1⟩ dl_40 (by decide) (by decide) (off := 1280) (tgt := 1320) rfl (by rfl) (lc_guard Rel g14 hC hK hT hl hX hbl h0 hi5 hL9 hRf hRl (by omega) (by omega) hrel next)
      · exact rg_tswIn ⟨hC.1, hC.2.1⟩ dl_40 (by decide) (by decide) (off := 1372) (tgt := 1412) rfl (by rfl) (lc_split Rel g15 hC hK hT hl hX hbl h0 hi5 hL9 hRf hRl (by omega) (by omega) hrel next)
      · exact rg_tswIn ⟨hC.1, hC.2.1⟩ dl_40 (by decide) (by decide) (off := 1440) (tgt := 1480) rfl (by rfl) (lc_merge Rel g16 hC hK hT hl hX hbl h0 hi5 hL9 hRf hRl (by omega) (by omega) hrel next)
      · exact rg_tswIn ⟨hC.1, hC.2.1⟩ dl_40 (by decide) (by decide) (off := 1508) (tgt := 1548) rfl (by rfl) (lc_run Rel g17 hC hK hT hl hX hbl h0 hi5 hL9 hRf hRl (by omega) (by omega) hrel next)
      · exact rg_tswIn ⟨hC.1, hC.2.1⟩ dl_40 (by decide) (by decide) (off := 1600) (tgt := 1640) rfl (by rfl) (lc_tests Rel g18 hC hK hT hl hX hbl h0 hi5 hL9 hRf hRl (by omega) (by omega) hrel next)
      · exact rg_tswIn ⟨hC.1, hC.2.1⟩ dl_40 (by decide) (by decide) (off := 1613) (tgt := 1653) rfl (by rfl) (lc_views Rel g19 hC hK hT hl hX hbl h0 hi5 hL9 hRf hRl (by omega) (by omega) hrel next)
      · exact rg_tswIn ⟨hC.1, hC.2.1⟩ dl_40 (by decide) (by decide) (off := 1626) (tgt := 1666) rfl (by rfl) (lc_viewAt Rel g20 hC hK hT hl hX hbl h0 hi5 hL9 hRf hRl (by omega) (by omega) hrel next)
      · exact rg_tswIn ⟨hC.1, hC.2.1⟩ dl_40 (by decide) (by decide) (off := 1682) (tgt := 1722) rfl (by rfl) (lc_bound Rel g21 hC hK hT hl hX hbl h0 hi5 hL9 hRf hRl (by omega) (by omega) hrel next)
      · exact rg_tswIn ⟨hC.1, hC.2.1⟩ dl_40 (by decide) (by decide) (off := 1738) (tgt := 1778) rfl (by rfl) (lc_taken Rel g22 hC hK hT hl hX hbl h0 hi5 hL9 hRf hRl (by omega) (by omega) hrel next)
      · exact rg_tswIn ⟨hC.1, hC.2.1⟩ dl_40 (by decide) (by decide) (off := 1794) (tgt := 1834) rfl (by rfl) (lc_size Rel g23 hC hK hT hl hX hbl h0 hi5 hL9 hRf hRl (by omega) (by omega) hrel next)
      · exact rg_tswIn ⟨hC.1, hC.2.1⟩ dl_40 (by decide) (by decide) (off := 1878) (tgt := 1918) rfl (by rfl) (lc_missing Rel g24 hC hK hT hl hX hbl h0 hi5 hL9 hRf hRl (by omega) (by omega) hrel next)
      · exact rg_tswIn ⟨hC.1, hC.2.1⟩ dl_40 (by decide) (by decide) (off := 1922) (tgt := 1962) rfl (by rfl) (lc_example Rel g25 hC hK hT hl hX hbl h0 hi5 hL9 hRf hRl (by omega) (by omega) hrel next)
      · exact rg_tswIn ⟨hC.1, hC.2.1⟩ dl_40 (by decide) (by decide) (off := 1978) (tgt := 2018) rfl (by rfl) (lc_isUsed Rel g26 hC hK hT hl hX hbl h0 hi5 hL9 hRf hRl (by omega) (by omega) hrel next)
end LW
