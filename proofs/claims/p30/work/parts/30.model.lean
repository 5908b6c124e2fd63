/-! a second account of the calls, by definitions alone: rows of ints; what whole's proof read off its reference -/
def F_X11_thrown (σ : Sg) : Int :=
σ 0 0
def F_X11_refused (a1 : Int) (σ : Sg) : (Bool × Sg) :=
bnd (up2 σ 0 0 a1) fun s1 =>
if a1 = 0 then
(false, s1)
else
(true, s1)
def F_X11_in (a0 : Int) (a1 : Int) (a2 : Int) : Bool :=
if a0 < a1 then
false
else
if a2 < a0 then
false
else
true
def F_X11_isKind (a0 : Int) : Bool :=
F_X11_in a0 0 5
def F_X11_pick (a0 : Int) (a1 : Int) (a2 : Int) (a3 : Int) : Int :=
if a3 = 0 then
a0
else
if a3 = 1 then
a1
else
a2
def B_X11_constructor_61 (x7 : Int) (y0 : Bool) (σ : Sg) : Option ((Bool × Int) ⊕ Bool) :=
some (.inl (y0, wrap (x7 + 1)))
def B_X11_constructor_60 (x7 : Int) (σ : Sg) : Option ((Bool × Int) ⊕ Bool) :=
B_X11_constructor_61 x7 false σ
def B_X11_constructor_56 (x7 : Int) (σ : Sg) : Option ((Bool × Int) ⊕ Bool) :=
B_X11_constructor_61 x7 true σ
def L_X11_constructor_11 (x2 : Int) (x3 : Int) (x4 : Int) (x5 : Int) (σ : Sg) (x6 : Bool) (x7 : Int) : Option ((Bool × Int) ⊕ Bool) :=
if 3 ≤ x7 then
some (.inr x6)
else
bnd (F_X11_pick x3 x4 x5 x7) fun v3 =>
if x6 = true then
if x2 ≤ x7 then
if v3 = 0 then
B_X11_constructor_56 x7 σ
else
B_X11_constructor_60 x7 σ
else
if (F_X11_isKind v3) = true then
B_X11_constructor_56 x7 σ
else
B_X11_constructor_60 x7 σ
else
B_X11_constructor_60 x7 σ
def L_X11_constructor_138 (x3 : Int) (x4 : Int) (x5 : Int) (x7 : Int) (x8 : Int) (σ : Sg) : Option ((Int × Sg) ⊕ Sg) :=
if 3 ≤ x8 then
some (.inr σ)
else
(wrn 48 σ 3 (wrap ((wrap (3 * x7)) + x8)) (F_X11_pick x3 x4 x5 x8)).bind fun s17 =>
some (.inl (wrap (x8 + 1), s17))
def B_X11_constructor_107 (x1 : Int) (x2 : Int) (x3 : Int) (x4 : Int) (x5 : Int) (y0 : Int) (σ : Sg) : Option (Int × Sg) :=
bnd (F_X11_refused y0 σ) fun q9 =>
if q9.1 = true then
some (0, q9.2)
else
(rdn 4 q9.2 1 x1).bind fun v11 =>
bnd (wrap ((wrap (4 * x1)) + v11)) fun v13 =>
(wrn 16 q9.2 2 v13 x2).bind fun s15 =>
(iter (fun a : (Int × Sg) => L_X11_constructor_138 x3 x4 x5 v13 a.1 a.2) 4 (0, s15)).bind fun y19 =>
(rdn 4 y19 1 x1).bind fun v21 =>
(wrn 4 y19 1 x1 (wrap (v21 + 1))).bind fun s23 =>
bnd (up2 s23 0 54 (-1)) fun s25 =>
(rdn 4 s25 1 x1).bind fun v27 =>
some (wrap (v27 - 1), s25)
def F_X11_constructor (a1 : Int) (a2 : Int) (a3 : Int) (a4 : Int) (a5 : Int) (σ : Sg) : Option (Int × Sg) :=
bnd (F_X11_in a2 0 3) fun v1 =>
(iter (fun a : (Bool × Int) => L_X11_constructor_11 a2 a3 a4 a5 σ a.1 a.2) 4 (v1, 0)).bind fun y5 =>
if (F_X11_in a1 0 3) = true then
if y5 = true then
(rdn 4 σ 1 a1).bind fun v7 =>
if v7 = 4 then
B_X11_constructor_107 a1 a2 a3 a4 a5 3 σ
else
B_X11_constructor_107 a1 a2 a3 a4 a5 0 σ
else
B_X11_constructor_107 a1 a2 a3 a4 a5 2 σ
else
B_X11_constructor_107 a1 a2 a3 a4 a5 1 σ
def F_X11_value (a1 : Int) (a2 : Int) (a3 : Int) (a4 : Int) (a5 : Int) (a6 : Int) (σ : Sg) : Option (Int × Sg) :=
(wrn 40 σ 4 (σ 0 4) a1).bind fun s1 =>
(wrn 40 s1 5 (s1 0 4) a2).bind fun s3 =>
(wrn 120 s3 6 (wrap (3 * (s3 0 4))) a3).bind fun s5 =>
(wrn 120 s5 6 (wrap ((wrap (3 * (s5 0 4))) + 1)) a4).bind fun s7 =>
(wrn 120 s7 6 (wrap ((wrap (3 * (s7 0 4))) + 2)) a5).bind fun s9 =>
(wrn 40 s9 7 (s9 0 4) (jrem a6 97)).bind fun s11 =>
bnd (up2 s11 0 4 (wrap ((s11 0 4) + 1))) fun s13 =>
some (wrap ((s13 0 4) - 1), s13)
def B_X11_num_29 (x1 : Int) (y0 : Int) (σ : Sg) : Option (Int × Sg) :=
bnd (F_X11_refused y0 σ) fun q1 =>
if q1.1 = true then
some (0, q1.2)
else
(F_X11_value 4 x1 0 0 0 x1 q1.2).bind fun q3 =>
some (q3.1, q3.2)
def F_X11_num (a1 : Int) (σ : Sg) : Option (Int × Sg) :=
if (F_X11_in a1 0 9) = true then
if (σ 0 4) = 40 then
B_X11_num_29 a1 2 σ
else
B_X11_num_29 a1 0 σ
else
B_X11_num_29 a1 1 σ
def B_X11_seq_55 (x6 : Int) (y0 : Bool) (σ : Sg) : Option ((Bool × Int) ⊕ Bool) :=
some (.inl (y0, wrap (x6 + 1)))
def B_X11_seq_54 (x6 : Int) (σ : Sg) : Option ((Bool × Int) ⊕ Bool) :=
B_X11_seq_55 x6 false σ
def B_X11_seq_44 (x6 : Int) (y0 : Int) (y1 : Bool) (y2 : Int) (σ : Sg) : Option ((Bool × Int) ⊕ Bool) :=
if (F_X11_in y2 (b2i y1) y0) = true then
B_X11_seq_55 x6 true σ
else
B_X11_seq_54 x6 σ
def L_X11_seq_11 (x1 : Int) (x2 : Int) (x3 : Int) (x4 : Int) (σ : Sg) (x5 : Bool) (x6 : Int) : Option ((Bool × Int) ⊕ Bool) :=
if 3 ≤ x6 then
some (.inr x5)
else
if x5 = true then
if x1 ≤ x6 then
B_X11_seq_44 x6 0 false (F_X11_pick x2 x3 x4 x6) σ
else
B_X11_seq_44 x6 9 false (F_X11_pick x2 x3 x4 x6) σ
else
B_X11_seq_54 x6 σ
def B_X11_seq_87 (x1 : Int) (x2 : Int) (x3 : Int) (x4 : Int) (y0 : Int) (σ : Sg) : Option (Int × Sg) :=
bnd (F_X11_refused y0 σ) fun q5 =>
if q5.1 = true then
some (0, q5.2)
else
(F_X11_value 5 x1 x2 x3 x4 (wrap ((wrap ((wrap ((wrap (3 * x1)) + x2)) + x3)) + x4)) q5.2).bind fun q7 =>
some (q7.1, q7.2)
def F_X11_seq (a1 : Int) (a2 : Int) (a3 : Int) (a4 : Int) (σ : Sg) : Option (Int × Sg) :=
bnd (F_X11_in a1 0 3) fun v1 =>
(iter (fun a : (Bool × Int) => L_X11_seq_11 a1 a2 a3 a4 σ a.1 a.2) 4 (v1, 0)).bind fun y3 =>
if y3 = true then
if (σ 0 4) = 40 then
B_X11_seq_87 a1 a2 a3 a4 2 σ
else
B_X11_seq_87 a1 a2 a3 a4 0 σ
else
B_X11_seq_87 a1 a2 a3 a4 1 σ
def F_X11_isConstructor (a1 : Int) (a2 : Int) (σ : Sg) : Option Bool :=
if (F_X11_in a1 0 3) = true then
(rdn 4 σ 1 a1).bind fun v1 =>
if (F_X11_in a2 0 (wrap (v1 - 1))) = true then
some true
else
some false
else
some false
def B_X11_data_150 (x6 : Bool) (x9 : Int) (y0 : Bool) (σ : Sg) : Option ((Bool × Bool × Int) ⊕ (Bool × Bool)) :=
some (.inl (x6, y0, wrap (x9 + 1)))
def B_X11_data_149 (x6 : Bool) (x9 : Int) (σ : Sg) : Option ((Bool × Bool × Int) ⊕ (Bool × Bool)) :=
B_X11_data_150 x6 x9 false σ
def B_X11_data_145 (x6 : Bool) (x9 : Int) (σ : Sg) : Option ((Bool × Bool × Int) ⊕ (Bool × Bool)) :=
B_X11_data_150 x6 x9 true σ
def B_X11_data_97 (x7 : Bool) (x8 : Int) (x9 : Int) (x10 : Int) (x11 : Bool) (y0 : Bool) (σ : Sg) : Option ((Bool × Bool × Int) ⊕ (Bool × Bool)) :=
if x7 = true then
if x11 = true then
if y0 = true then
(rdn 40 σ 4 x10).bind fun v7 =>
(rdn 48 σ 3 (wrap ((wrap (3 * x8)) + x9))).bind fun v9 =>
if v7 = v9 then
B_X11_data_145 y0 x9 σ
else
B_X11_data_149 y0 x9 σ
else
B_X11_data_149 y0 x9 σ
else
if x10 = (-1) then
B_X11_data_145 y0 x9 σ
else
B_X11_data_149 y0 x9 σ
else
B_X11_data_149 y0 x9 σ
def B_X11_data_92 (x7 : Bool) (x8 : Int) (x9 : Int) (x10 : Int) (x11 : Bool) (σ : Sg) : Option ((Bool × Bool × Int) ⊕ (Bool × Bool)) :=
B_X11_data_97 x7 x8 x9 x10 x11 true σ
def B_X11_data_70 (x7 : Bool) (x8 : Int) (x9 : Int) (x10 : Int) (y0 : Bool) (σ : Sg) : Option ((Bool × Bool × Int) ⊕ (Bool × Bool)) :=
if y0 = true then
if (F_X11_in x10 0 (wrap ((σ 0 4) - 1))) = true then
B_X11_data_92 x7 x8 x9 x10 y0 σ
else
B_X11_data_97 x7 x8 x9 x10 y0 false σ
else
B_X11_data_92 x7 x8 x9 x10 y0 σ
def L_X11_data_30 (x3 : Int) (x4 : Int) (x5 : Int) (x8 : Int) (σ : Sg) (x6 : Bool) (x7 : Bool) (x9 : Int) : Option ((Bool × Bool × Int) ⊕ (Bool × Bool)) :=
if 3 ≤ x9 then
some (.inr (x6, x7))
else
if x6 = true then
bnd (F_X11_pick x3 x4 x5 x9) fun v3 =>
(rdn 16 σ 2 x8).bind fun v5 =>
if v5 ≤ x9 then
B_X11_data_70 x7 x8 x9 v3 false σ
else
B_X11_data_70 x7 x8 x9 v3 true σ
else
some (.inr (x6, x7))
def L_X11_data_207 (x3 : Int) (x4 : Int) (x5 : Int) (x8 : Int) (σ : Sg) (x9 : Int) (x10 : Int) : Option ((Int × Int) ⊕ Int) :=
(rdn 16 σ 2 x8).bind fun v17 =>
if v17 ≤ x10 then
some (.inr x9)
else
(rdn 40 σ 7 (F_X11_pick x3 x4 x5 x10)).bind fun v19 =>
bnd (wrap (x9 + (wrap ((wrap (x10 + 1)) * v19)))) fun v21 =>
some (.inl (v21, wrap (x10 + 1)))
def B_X11_data_191 (x1 : Int) (x2 : Int) (x3 : Int) (x4 : Int) (x5 : Int) (x8 : Int) (y0 : Int) (σ : Sg) : Option (Int × Sg) :=
bnd (F_X11_refused y0 σ) fun q13 =>
if q13.1 = true then
some (0, q13.2)
else
bnd (wrap (5 * x2)) fun v15 =>
(iter (fun a : (Int × Int) => L_X11_data_207 x3 x4 x5 x8 q13.2 a.1 a.2) 3000 (v15, 0)).bind fun y23 =>
(F_X11_value x1 x2 x3 x4 x5 y23 q13.2).bind fun q25 =>
some (q25.1, q25.2)
def B_X11_data_25 (x1 : Int) (x2 : Int) (x3 : Int) (x4 : Int) (x5 : Int) (x6 : Bool) (x7 : Bool) (y0 : Int) (σ : Sg) : Option (Int × Sg) :=
(iter (fun a : (Bool × Bool × Int) => L_X11_data_30 x3 x4 x5 y0 σ a.1 a.2.1 a.2.2) 4 (x6, x7, 0)).bind fun y11 =>
if y11.1 = true then
if y11.2 = true then
if (σ 0 4) = 40 then
B_X11_data_191 x1 x2 x3 x4 x5 y0 3 σ
else
B_X11_data_191 x1 x2 x3 x4 x5 y0 0 σ
else
B_X11_data_191 x1 x2 x3 x4 x5 y0 2 σ
else
B_X11_data_191 x1 x2 x3 x4 x5 y0 1 σ
def F_X11_data (a1 : Int) (a2 : Int) (a3 : Int) (a4 : Int) (a5 : Int) (σ : Sg) : Option (Int × Sg) :=
(F_X11_isConstructor a1 a2 σ).bind fun q1 =>
if q1 = true then
B_X11_data_25 a1 a2 a3 a4 a5 q1 true (wrap ((wrap (4 * a1)) + a2)) σ
else
B_X11_data_25 a1 a2 a3 a4 a5 q1 true 0 σ
def F_X11_isPattern (a1 : Int) (σ : Sg) : Bool :=
F_X11_in a1 0 (wrap ((σ 0 9) - 1))
def B_X11_suits_20 (σ : Sg) : Option Bool :=
some true
def F_X11_suits (a1 : Int) (a2 : Int) (σ : Sg) : Option Bool :=
(rdn 60 σ 12 a1).bind fun v1 =>
if v1 = (-1) then
B_X11_suits_20 σ
else
(rdn 60 σ 12 a1).bind fun v3 =>
if v3 = a2 then
B_X11_suits_20 σ
else
some false
def B_X11_sizeOf_48 (y0 : Int) (y1 : Int) (σ : Sg) : Option Int :=
some (wrap (y1 + y0))
def B_X11_sizeOf_32 (x3 : Int) (y0 : Int) (y1 : Int) (σ : Sg) : Option Int :=
if x3 = (-1) then
B_X11_sizeOf_48 0 (wrap (y1 + y0)) σ
else
(rdn 60 σ 14 x3).bind fun v5 =>
B_X11_sizeOf_48 v5 (wrap (y1 + y0)) σ
def B_X11_sizeOf_16 (x2 : Int) (x3 : Int) (y0 : Int) (y1 : Bool) (σ : Sg) : Option Int :=
if x2 = (-1) then
B_X11_sizeOf_32 x3 0 (wrap ((b2i y1) + y0)) σ
else
(rdn 60 σ 14 x2).bind fun v3 =>
B_X11_sizeOf_32 x3 v3 (wrap ((b2i y1) + y0)) σ
def F_X11_sizeOf (a1 : Int) (a2 : Int) (a3 : Int) (σ : Sg) : Option Int :=
if a1 = (-1) then
B_X11_sizeOf_16 a2 a3 0 true σ
else
(rdn 60 σ 14 a1).bind fun v1 =>
B_X11_sizeOf_16 a2 a3 v1 true σ
def B_X11_pattern_280 (x9 : Int) (σ : Sg) : Option ((Int × Sg) ⊕ Sg) :=
some (.inl (wrap (x9 + 1), σ))
def B_X11_pattern_279 (x9 : Int) (y0 : Int) (y1 : Int) (σ : Sg) : Option ((Int × Sg) ⊕ Sg) :=
(wrn 60 σ 13 y1 y0).bind fun s43 =>
B_X11_pattern_280 x9 s43
def B_X11_pattern_238 (x8 : Int) (x9 : Int) (x10 : Int) (y0 : Bool) (y1 : Int) (σ : Sg) : Option ((Int × Sg) ⊕ Sg) :=
(wrn 60 σ 17 y1 (b2i y0)).bind fun s35 =>
(rdn 60 s35 13 x10).bind fun v37 =>
(rdn 60 s35 13 x8).bind fun v39 =>
if v37 ≤ v39 then
(rdn 60 s35 13 x8).bind fun v41 =>
B_X11_pattern_279 x9 v41 x8 s35
else
(rdn 60 s35 13 x10).bind fun v45 =>
B_X11_pattern_279 x9 v45 x8 s35
def B_X11_pattern_237 (x8 : Int) (x9 : Int) (x10 : Int) (y0 : Int) (σ : Sg) : Option ((Int × Sg) ⊕ Sg) :=
B_X11_pattern_238 x8 x9 x10 false y0 σ
def B_X11_pattern_206 (x8 : Int) (x9 : Int) (x10 : Int) (y0 : Bool) (y1 : Int) (σ : Sg) : Option ((Int × Sg) ⊕ Sg) :=
(wrn 60 σ 16 y1 (b2i y0)).bind fun s31 =>
(rdn 60 s31 17 x8).bind fun v33 =>
if v33 = 0 then
B_X11_pattern_237 x8 x9 x10 x8 s31
else
(rdn 60 s31 17 x10).bind fun v47 =>
if v47 = 0 then
B_X11_pattern_237 x8 x9 x10 x8 s31
else
B_X11_pattern_238 x8 x9 x10 true x8 s31
def B_X11_pattern_201 (x8 : Int) (x9 : Int) (x10 : Int) (y0 : Int) (σ : Sg) : Option ((Int × Sg) ⊕ Sg) :=
B_X11_pattern_206 x8 x9 x10 true y0 σ
def L_X11_pattern_119 (x4 : Int) (x5 : Int) (x6 : Int) (x8 : Int) (x9 : Int) (σ : Sg) : Option ((Int × Sg) ⊕ Sg) :=
if 3 ≤ x9 then
some (.inr σ)
else
bnd (F_X11_pick x4 x5 x6 x9) fun v19 =>
(wrn 180 σ 11 (wrap ((wrap (3 * x8)) + x9)) v19).bind fun s21 =>
if v19 = (-1) then
B_X11_pattern_280 x9 s21
else
(rdn 60 s21 15 x8).bind fun v23 =>
(rdn 60 s21 15 v19).bind fun v25 =>
(wrn 60 s21 15 x8 (jor v23 v25)).bind fun s27 =>
(rdn 60 s27 16 x8).bind fun v29 =>
if v29 = 0 then
(rdn 60 s27 16 v19).bind fun v49 =>
if v49 = 0 then
B_X11_pattern_206 x8 x9 v19 false x8 s27
else
B_X11_pattern_201 x8 x9 v19 x8 s27
else
B_X11_pattern_201 x8 x9 v19 x8 s27
def B_X11_pattern_326 (x4 : Int) (x5 : Int) (x6 : Int) (x8 : Int) (y0 : Bool) (y1 : Int) (y2 : Int) (σ : Sg) : Option (Int × Sg) :=
(wrn 60 σ 13 y2 (wrap (y1 + (b2i y0)))).bind fun s55 =>
(F_X11_sizeOf x4 x5 x6 s55).bind fun q57 =>
(wrn 60 s55 14 x8 q57).bind fun s59 =>
bnd (up2 s59 0 9 (wrap ((s59 0 9) + 1))) fun s61 =>
some (x8, s61)
def B_X11_pattern_306 (x4 : Int) (x5 : Int) (x6 : Int) (x8 : Int) (y0 : Bool) (σ : Sg) : Option (Int × Sg) :=
(rdn 60 σ 13 x8).bind fun v53 =>
if y0 = true then
B_X11_pattern_326 x4 x5 x6 x8 false v53 x8 σ
else
B_X11_pattern_326 x4 x5 x6 x8 true v53 x8 σ
def B_X11_pattern_301 (x4 : Int) (x5 : Int) (x6 : Int) (x8 : Int) (σ : Sg) : Option (Int × Sg) :=
B_X11_pattern_306 x4 x5 x6 x8 true σ
def B_X11_pattern_107 (x1 : Int) (x4 : Int) (x5 : Int) (x6 : Int) (x8 : Int) (y0 : Bool) (y1 : Int) (σ : Sg) : Option (Int × Sg) :=
(wrn 60 σ 17 y1 (b2i y0)).bind fun s15 =>
(wrn 60 s15 13 x8 0).bind fun s17 =>
(iter (fun a : (Int × Sg) => L_X11_pattern_119 x4 x5 x6 x8 a.1 a.2) 4 (0, s17)).bind fun y51 =>
if x1 = 1 then
B_X11_pattern_301 x4 x5 x6 x8 y51
else
if x1 = 4 then
B_X11_pattern_301 x4 x5 x6 x8 y51
else
if x1 = 5 then
B_X11_pattern_301 x4 x5 x6 x8 y51
else
B_X11_pattern_306 x4 x5 x6 x8 false y51
def B_X11_pattern_106 (x1 : Int) (x4 : Int) (x5 : Int) (x6 : Int) (x8 : Int) (y0 : Int) (σ : Sg) : Option (Int × Sg) :=
B_X11_pattern_107 x1 x4 x5 x6 x8 false y0 σ
def B_X11_pattern_74 (x1 : Int) (x4 : Int) (x5 : Int) (x6 : Int) (x8 : Int) (y0 : Bool) (y1 : Int) (σ : Sg) : Option (Int × Sg) :=
(wrn 60 σ 16 y1 (b2i y0)).bind fun s13 =>
if x1 = 1 then
B_X11_pattern_106 x1 x4 x5 x6 x8 x8 s13
else
if x1 = 5 then
B_X11_pattern_106 x1 x4 x5 x6 x8 x8 s13
else
if x1 = 3 then
B_X11_pattern_106 x1 x4 x5 x6 x8 x8 s13
else
if x1 = 6 then
B_X11_pattern_106 x1 x4 x5 x6 x8 x8 s13
else
B_X11_pattern_107 x1 x4 x5 x6 x8 true x8 s13
def B_X11_pattern_57 (x1 : Int) (x4 : Int) (x5 : Int) (x6 : Int) (x8 : Int) (y0 : Int) (y1 : Int) (σ : Sg) : Option (Int × Sg) :=
(wrn 60 σ 15 y1 y0).bind fun s11 =>
if x1 = 5 then
B_X11_pattern_74 x1 x4 x5 x6 x8 true x8 s11
else
B_X11_pattern_74 x1 x4 x5 x6 x8 false x8 s11
def F_X11_pattern (a1 : Int) (a2 : Int) (a3 : Int) (a4 : Int) (a5 : Int) (a6 : Int) (a7 : Int) (σ : Sg) : Option (Int × Sg) :=
bnd (σ 0 9) fun v1 =>
(wrn 60 σ 8 v1 a1).bind fun s3 =>
(wrn 60 s3 9 v1 a2).bind fun s5 =>
(wrn 60 s5 10 v1 a3).bind fun s7 =>
(wrn 60 s7 12 v1 a7).bind fun s9 =>
if a1 = 1 then
B_X11_pattern_57 a1 a4 a5 a6 v1 (jshl 1 a2) v1 s9
else
B_X11_pattern_57 a1 a4 a5 a6 v1 0 v1 s9
def B_X11_depthOf_52 (x5 : Int) (y0 : Int) (σ : Sg) : Option ((Int × Int) ⊕ Int) :=
some (.inl (y0, wrap (x5 + 1)))
def B_X11_depthOf_50 (x4 : Int) (x5 : Int) (σ : Sg) : Option ((Int × Int) ⊕ Int) :=
B_X11_depthOf_52 x5 x4 σ
def L_X11_depthOf_6 (x1 : Int) (x2 : Int) (x3 : Int) (σ : Sg) (x4 : Int) (x5 : Int) : Option ((Int × Int) ⊕ Int) :=
if 3 ≤ x5 then
some (.inr x4)
else
bnd (F_X11_pick x1 x2 x3 x5) fun v1 =>
if v1 = (-1) then
B_X11_depthOf_50 x4 x5 σ
else
(rdn 60 σ 13 v1).bind fun v3 =>
if v3 ≤ x4 then
B_X11_depthOf_50 x4 x5 σ
else
(rdn 60 σ 13 v1).bind fun v5 =>
B_X11_depthOf_52 x5 v5 σ
def F_X11_depthOf (a1 : Int) (a2 : Int) (a3 : Int) (σ : Sg) : Option Int :=
(iter (fun a : (Int × Int) => L_X11_depthOf_6 a1 a2 a3 σ a.1 a.2) 4 (0, 0)).bind fun y7 =>
some (wrap (y7 + 1))
def F_X11_isFull (σ : Sg) : Bool :=
if (σ 0 9) = 60 then
true
else
false
def B_X11_any_13 (y0 : Bool) (σ : Sg) : Option (Int × Sg) :=
bnd (F_X11_refused (b2i y0) σ) fun q1 =>
if q1.1 = true then
some (0, q1.2)
else
(F_X11_pattern 0 0 0 (-1) (-1) (-1) (-1) q1.2).bind fun q3 =>
some (q3.1, q3.2)
def F_X11_any (σ : Sg) : Option (Int × Sg) :=
if (F_X11_isFull σ) = true then
B_X11_any_13 true σ
else
B_X11_any_13 false σ
def B_X11_name_89 (x1 : Int) (x2 : Int) (y0 : Int) (σ : Sg) : Option (Int × Sg) :=
bnd (F_X11_refused y0 σ) fun q1 =>
if q1.1 = true then
some (0, q1.2)
else
(rdn 60 q1.2 12 x2).bind fun v3 =>
(F_X11_pattern 1 x1 0 x2 (-1) (-1) v3 q1.2).bind fun q5 =>
some (q5.1, q5.2)
def B_X11_name_57 (x1 : Int) (x2 : Int) (x3 : Bool) (y0 : Bool) (σ : Sg) : Option (Int × Sg) :=
if x3 = true then
if y0 = true then
if (F_X11_isFull σ) = true then
B_X11_name_89 x1 x2 3 σ
else
B_X11_name_89 x1 x2 0 σ
else
B_X11_name_89 x1 x2 2 σ
else
B_X11_name_89 x1 x2 1 σ
def B_X11_name_56 (x1 : Int) (x2 : Int) (x3 : Bool) (σ : Sg) : Option (Int × Sg) :=
B_X11_name_57 x1 x2 x3 false σ
def B_X11_name_22 (x1 : Int) (x2 : Int) (y0 : Bool) (σ : Sg) : Option (Int × Sg) :=
if y0 = true then
(rdn 60 σ 15 x2).bind fun v7 =>
if (jand (jshr v7 x1) 1) = 0 then
(F_X11_sizeOf x2 (-1) (-1) σ).bind fun q9 =>
if 40 < q9 then
B_X11_name_56 x1 x2 y0 σ
else
B_X11_name_57 x1 x2 y0 true σ
else
B_X11_name_56 x1 x2 y0 σ
else
B_X11_name_56 x1 x2 y0 σ
def B_X11_name_21 (x1 : Int) (x2 : Int) (σ : Sg) : Option (Int × Sg) :=
B_X11_name_22 x1 x2 false σ
def F_X11_name (a1 : Int) (a2 : Int) (σ : Sg) : Option (Int × Sg) :=
if (F_X11_in a1 0 5) = true then
if (F_X11_isPattern a2 σ) = true then
B_X11_name_22 a1 a2 true σ
else
B_X11_name_21 a1 a2 σ
else
B_X11_name_21 a1 a2 σ
def B_X11_range_47 (x1 : Int) (x2 : Int) (y0 : Int) (σ : Sg) : Option (Int × Sg) :=
bnd (F_X11_refused y0 σ) fun q1 =>
if q1.1 = true then
some (0, q1.2)
else
(F_X11_pattern 2 x1 x2 (-1) (-1) (-1) 4 q1.2).bind fun q3 =>
some (q3.1, q3.2)
def B_X11_range_25 (x1 : Int) (x2 : Int) (y0 : Bool) (σ : Sg) : Option (Int × Sg) :=
if y0 = true then
if (F_X11_isFull σ) = true then
B_X11_range_47 x1 x2 2 σ
else
B_X11_range_47 x1 x2 0 σ
else
B_X11_range_47 x1 x2 1 σ
def B_X11_range_24 (x1 : Int) (x2 : Int) (σ : Sg) : Option (Int × Sg) :=
B_X11_range_25 x1 x2 false σ
def F_X11_range (a1 : Int) (a2 : Int) (σ : Sg) : Option (Int × Sg) :=
if (F_X11_in a1 0 9) = true then
if (F_X11_in a2 a1 9) = true then
B_X11_range_25 a1 a2 true σ
else
B_X11_range_24 a1 a2 σ
else
B_X11_range_24 a1 a2 σ
def B_X11_make_184 (x6 : Bool) (x8 : Bool) (x10 : Int) (y0 : Int) (y1 : Int) (σ : Sg) : Option ((Bool × Bool × Int × Int) ⊕ (Bool × Bool)) :=
bnd (jor y1 y0) fun v7 =>
some (.inl (x6, x8, v7, wrap (x10 + 1)))
def B_X11_make_183 (x6 : Bool) (x8 : Bool) (x10 : Int) (y0 : Int) (σ : Sg) : Option ((Bool × Bool × Int × Int) ⊕ (Bool × Bool)) :=
B_X11_make_184 x6 x8 x10 0 y0 σ
def B_X11_make_159 (x6 : Bool) (x9 : Int) (x10 : Int) (x11 : Int) (x12 : Bool) (y0 : Bool) (σ : Sg) : Option ((Bool × Bool × Int × Int) ⊕ (Bool × Bool)) :=
if x12 = true then
if x6 = true then
(rdn 60 σ 15 x11).bind fun v9 =>
B_X11_make_184 x6 y0 x10 v9 x9 σ
else
B_X11_make_183 x6 y0 x10 x9 σ
else
B_X11_make_183 x6 y0 x10 x9 σ
def B_X11_make_158 (x6 : Bool) (x9 : Int) (x10 : Int) (x11 : Int) (x12 : Bool) (σ : Sg) : Option ((Bool × Bool × Int × Int) ⊕ (Bool × Bool)) :=
B_X11_make_159 x6 x9 x10 x11 x12 false σ
def B_X11_make_154 (x6 : Bool) (x9 : Int) (x10 : Int) (x11 : Int) (x12 : Bool) (σ : Sg) : Option ((Bool × Bool × Int × Int) ⊕ (Bool × Bool)) :=
B_X11_make_159 x6 x9 x10 x11 x12 true σ
def B_X11_make_94 (x7 : Int) (x8 : Bool) (x9 : Int) (x10 : Int) (x11 : Int) (x12 : Bool) (y0 : Bool) (σ : Sg) : Option ((Bool × Bool × Int × Int) ⊕ (Bool × Bool)) :=
if x8 = true then
if x12 = true then
if y0 = true then
(rdn 48 σ 3 (wrap ((wrap (3 * x7)) + x10))).bind fun v11 =>
(F_X11_suits x11 v11 σ).bind fun q13 =>
if q13 = true then
(rdn 60 σ 15 x11).bind fun v15 =>
if (jand v15 x9) = 0 then
B_X11_make_154 y0 x9 x10 x11 x12 σ
else
B_X11_make_158 y0 x9 x10 x11 x12 σ
else
B_X11_make_158 y0 x9 x10 x11 x12 σ
else
B_X11_make_158 y0 x9 x10 x11 x12 σ
else
if x11 = (-1) then
B_X11_make_154 y0 x9 x10 x11 x12 σ
else
B_X11_make_158 y0 x9 x10 x11 x12 σ
else
B_X11_make_158 y0 x9 x10 x11 x12 σ
def B_X11_make_89 (x7 : Int) (x8 : Bool) (x9 : Int) (x10 : Int) (x11 : Int) (x12 : Bool) (σ : Sg) : Option ((Bool × Bool × Int × Int) ⊕ (Bool × Bool)) :=
B_X11_make_94 x7 x8 x9 x10 x11 x12 true σ
def B_X11_make_73 (x7 : Int) (x8 : Bool) (x9 : Int) (x10 : Int) (x11 : Int) (y0 : Bool) (σ : Sg) : Option ((Bool × Bool × Int × Int) ⊕ (Bool × Bool)) :=
if y0 = true then
if (F_X11_isPattern x11 σ) = true then
B_X11_make_89 x7 x8 x9 x10 x11 y0 σ
else
B_X11_make_94 x7 x8 x9 x10 x11 y0 false σ
else
B_X11_make_89 x7 x8 x9 x10 x11 y0 σ
def L_X11_make_33 (x3 : Int) (x4 : Int) (x5 : Int) (x7 : Int) (σ : Sg) (x6 : Bool) (x8 : Bool) (x9 : Int) (x10 : Int) : Option ((Bool × Bool × Int × Int) ⊕ (Bool × Bool)) :=
if 3 ≤ x10 then
some (.inr (x6, x8))
else
if x6 = true then
bnd (F_X11_pick x3 x4 x5 x10) fun v3 =>
(rdn 16 σ 2 x7).bind fun v5 =>
if v5 ≤ x10 then
B_X11_make_73 x7 x8 x9 x10 v3 false σ
else
B_X11_make_73 x7 x8 x9 x10 v3 true σ
else
some (.inr (x6, x8))
def B_X11_make_268 (x1 : Int) (x3 : Int) (x4 : Int) (x5 : Int) (x7 : Int) (y0 : Int) (σ : Sg) : Option (Int × Sg) :=
bnd (F_X11_refused y0 σ) fun q19 =>
if q19.1 = true then
some (0, q19.2)
else
(F_X11_pattern 3 x7 0 x3 x4 x5 x1 q19.2).bind fun q21 =>
some (q21.1, q21.2)
def B_X11_make_235 (x1 : Int) (x3 : Int) (x4 : Int) (x5 : Int) (x6 : Bool) (x7 : Int) (y0 : Bool) (σ : Sg) : Option (Int × Sg) :=
if x6 = true then
if y0 = true then
if (F_X11_isFull σ) = true then
B_X11_make_268 x1 x3 x4 x5 x7 3 σ
else
B_X11_make_268 x1 x3 x4 x5 x7 0 σ
else
B_X11_make_268 x1 x3 x4 x5 x7 2 σ
else
B_X11_make_268 x1 x3 x4 x5 x7 1 σ
def B_X11_make_234 (x1 : Int) (x3 : Int) (x4 : Int) (x5 : Int) (x6 : Bool) (x7 : Int) (σ : Sg) : Option (Int × Sg) :=
B_X11_make_235 x1 x3 x4 x5 x6 x7 false σ
def B_X11_make_22 (x1 : Int) (x3 : Int) (x4 : Int) (x5 : Int) (x6 : Bool) (y0 : Int) (σ : Sg) : Option (Int × Sg) :=
(iter (fun a : (Bool × Bool × Int × Int) => L_X11_make_33 x3 x4 x5 y0 σ a.1 a.2.1 a.2.2.1 a.2.2.2) 4 (x6, true, 0, 0)).bind fun y17 =>
if y17.1 = true then
if y17.2 = true then
(F_X11_depthOf x3 x4 x5 σ).bind fun q23 =>
if 4 < q23 then
B_X11_make_234 x1 x3 x4 x5 y17.1 y0 σ
else
(F_X11_sizeOf x3 x4 x5 σ).bind fun q25 =>
if 40 < q25 then
B_X11_make_234 x1 x3 x4 x5 y17.1 y0 σ
else
B_X11_make_235 x1 x3 x4 x5 y17.1 y0 true σ
else
B_X11_make_234 x1 x3 x4 x5 y17.1 y0 σ
else
B_X11_make_234 x1 x3 x4 x5 y17.1 y0 σ
def F_X11_make (a1 : Int) (a2 : Int) (a3 : Int) (a4 : Int) (a5 : Int) (σ : Sg) : Option (Int × Sg) :=
(F_X11_isConstructor a1 a2 σ).bind fun q1 =>
if q1 = true then
B_X11_make_22 a1 a3 a4 a5 q1 (wrap ((wrap (4 * a1)) + a2)) σ
else
B_X11_make_22 a1 a3 a4 a5 q1 0 σ
def B_X11_areAlternatives_40 (x1 : Int) (x2 : Int) (y0 : Bool) (σ : Sg) : Option Bool :=
if y0 = true then
(rdn 60 σ 15 x1).bind fun v3 =>
(rdn 60 σ 15 x2).bind fun v5 =>
if v3 = v5 then
(F_X11_sizeOf x1 x2 (-1) σ).bind fun q7 =>
if 40 < q7 then
some false
else
some true
else
some false
else
some false
def B_X11_areAlternatives_35 (x1 : Int) (x2 : Int) (σ : Sg) : Option Bool :=
B_X11_areAlternatives_40 x1 x2 true σ
def F_X11_areAlternatives (a1 : Int) (a2 : Int) (σ : Sg) : Option Bool :=
(rdn 60 σ 12 a1).bind fun v1 =>
if v1 = (-1) then
B_X11_areAlternatives_35 a1 a2 σ
else
(rdn 60 σ 12 a2).bind fun v9 =>
if v9 = (-1) then
B_X11_areAlternatives_35 a1 a2 σ
else
(rdn 60 σ 12 a1).bind fun v11 =>
(rdn 60 σ 12 a2).bind fun v13 =>
if v11 = v13 then
B_X11_areAlternatives_35 a1 a2 σ
else
B_X11_areAlternatives_40 a1 a2 false σ
def B_X11_alternatives_32 (y0 : Int) (y1 : Int) (y2 : Int) (y3 : Int) (y4 : Bool) (y5 : Bool) (y6 : Int) (σ : Sg) : Option (Int × Sg) :=
(F_X11_pattern y6 (b2i y5) (b2i y4) y3 y2 y1 y0 σ).bind fun q5 =>
some (q5.1, q5.2)
def F_X11_alternatives (a1 : Int) (a2 : Int) (σ : Sg) : Option (Int × Sg) :=
(rdn 60 σ 12 a1).bind fun v1 =>
if v1 = (-1) then
(rdn 60 σ 12 a2).bind fun v7 =>
B_X11_alternatives_32 v7 (-1) a2 a1 false false 4 σ
else
(rdn 60 σ 12 a1).bind fun v3 =>
B_X11_alternatives_32 v3 (-1) a2 a1 false false 4 σ
def B_X11_either_56 (x1 : Int) (x2 : Int) (y0 : Int) (σ : Sg) : Option (Int × Sg) :=
bnd (F_X11_refused y0 σ) fun q3 =>
if q3.1 = true then
some (0, q3.2)
else
(F_X11_alternatives x1 x2 q3.2).bind fun q5 =>
some (q5.1, q5.2)
def B_X11_either_21 (x1 : Int) (x2 : Int) (y0 : Bool) (σ : Sg) : Option (Int × Sg) :=
if y0 = true then
(F_X11_areAlternatives x1 x2 σ).bind fun q1 =>
if q1 = true then
if (F_X11_isFull σ) = true then
B_X11_either_56 x1 x2 3 σ
else
B_X11_either_56 x1 x2 0 σ
else
B_X11_either_56 x1 x2 2 σ
else
B_X11_either_56 x1 x2 1 σ
def B_X11_either_20 (x1 : Int) (x2 : Int) (σ : Sg) : Option (Int × Sg) :=
B_X11_either_21 x1 x2 false σ
def F_X11_either (a1 : Int) (a2 : Int) (σ : Sg) : Option (Int × Sg) :=
if (F_X11_isPattern a1 σ) = true then
if (F_X11_isPattern a2 σ) = true then
B_X11_either_21 a1 a2 true σ
else
B_X11_either_20 a1 a2 σ
else
B_X11_either_20 a1 a2 σ
def B_X11_view_85 (x1 : Int) (x2 : Int) (y0 : Int) (σ : Sg) : Option (Int × Sg) :=
bnd (F_X11_refused y0 σ) fun q1 =>
if q1.1 = true then
some (0, q1.2)
else
(F_X11_pattern 5 x1 0 x2 (-1) (-1) (-1) q1.2).bind fun q3 =>
some (q3.1, q3.2)
def B_X11_view_53 (x1 : Int) (x2 : Int) (x3 : Bool) (y0 : Bool) (σ : Sg) : Option (Int × Sg) :=
if x3 = true then
if y0 = true then
if (F_X11_isFull σ) = true then
B_X11_view_85 x1 x2 3 σ
else
B_X11_view_85 x1 x2 0 σ
else
B_X11_view_85 x1 x2 2 σ
else
B_X11_view_85 x1 x2 1 σ
def B_X11_view_52 (x1 : Int) (x2 : Int) (x3 : Bool) (σ : Sg) : Option (Int × Sg) :=
B_X11_view_53 x1 x2 x3 false σ
def B_X11_view_22 (x1 : Int) (x2 : Int) (y0 : Bool) (σ : Sg) : Option (Int × Sg) :=
if y0 = true then
(rdn 60 σ 17 x2).bind fun v5 =>
if v5 = 0 then
B_X11_view_52 x1 x2 y0 σ
else
(F_X11_sizeOf x2 (-1) (-1) σ).bind fun q7 =>
if 40 < q7 then
B_X11_view_52 x1 x2 y0 σ
else
B_X11_view_53 x1 x2 y0 true σ
else
B_X11_view_52 x1 x2 y0 σ
def B_X11_view_21 (x1 : Int) (x2 : Int) (σ : Sg) : Option (Int × Sg) :=
B_X11_view_22 x1 x2 false σ
def F_X11_view (a1 : Int) (a2 : Int) (σ : Sg) : Option (Int × Sg) :=
if (F_X11_in a1 0 2) = true then
if (F_X11_isPattern a2 σ) = true then
B_X11_view_22 a1 a2 true σ
else
B_X11_view_21 a1 a2 σ
else
B_X11_view_21 a1 a2 σ
def B_X11_list_170 (x6 : Bool) (x7 : Bool) (x9 : Int) (y0 : Int) (y1 : Int) (σ : Sg) : Option ((Bool × Bool × Int × Int) ⊕ (Bool × Bool)) :=
bnd (jor y1 y0) fun v7 =>
some (.inl (x6, x7, v7, wrap (x9 + 1)))
def B_X11_list_169 (x6 : Bool) (x7 : Bool) (x9 : Int) (y0 : Int) (σ : Sg) : Option ((Bool × Bool × Int × Int) ⊕ (Bool × Bool)) :=
B_X11_list_170 x6 x7 x9 0 y0 σ
def B_X11_list_145 (x6 : Bool) (x8 : Int) (x9 : Int) (x10 : Int) (x11 : Bool) (x12 : Bool) (y0 : Bool) (σ : Sg) : Option ((Bool × Bool × Int × Int) ⊕ (Bool × Bool)) :=
if x11 = true then
if x12 = true then
(rdn 60 σ 15 x10).bind fun v9 =>
B_X11_list_170 x6 y0 x9 v9 x8 σ
else
B_X11_list_169 x6 y0 x9 x8 σ
else
B_X11_list_169 x6 y0 x9 x8 σ
def B_X11_list_144 (x6 : Bool) (x8 : Int) (x9 : Int) (x10 : Int) (x11 : Bool) (x12 : Bool) (σ : Sg) : Option ((Bool × Bool × Int × Int) ⊕ (Bool × Bool)) :=
B_X11_list_145 x6 x8 x9 x10 x11 x12 false σ
def B_X11_list_140 (x6 : Bool) (x8 : Int) (x9 : Int) (x10 : Int) (x11 : Bool) (x12 : Bool) (σ : Sg) : Option ((Bool × Bool × Int × Int) ⊕ (Bool × Bool)) :=
B_X11_list_145 x6 x8 x9 x10 x11 x12 true σ
def B_X11_list_91 (x7 : Bool) (x8 : Int) (x9 : Int) (x10 : Int) (x11 : Bool) (x12 : Bool) (y0 : Bool) (σ : Sg) : Option ((Bool × Bool × Int × Int) ⊕ (Bool × Bool)) :=
if x7 = true then
if x11 = true then
if x12 = true then
(F_X11_suits x10 4 σ).bind fun q11 =>
if q11 = true then
(rdn 60 σ 15 x10).bind fun v13 =>
if (jand v13 x8) = 0 then
B_X11_list_140 y0 x8 x9 x10 x11 x12 σ
else
B_X11_list_144 y0 x8 x9 x10 x11 x12 σ
else
B_X11_list_144 y0 x8 x9 x10 x11 x12 σ
else
B_X11_list_144 y0 x8 x9 x10 x11 x12 σ
else
if x10 = (-1) then
B_X11_list_140 y0 x8 x9 x10 x11 x12 σ
else
B_X11_list_144 y0 x8 x9 x10 x11 x12 σ
else
B_X11_list_144 y0 x8 x9 x10 x11 x12 σ
def B_X11_list_90 (x7 : Bool) (x8 : Int) (x9 : Int) (x10 : Int) (x11 : Bool) (x12 : Bool) (σ : Sg) : Option ((Bool × Bool × Int × Int) ⊕ (Bool × Bool)) :=
B_X11_list_91 x7 x8 x9 x10 x11 x12 false σ
def B_X11_list_86 (x7 : Bool) (x8 : Int) (x9 : Int) (x10 : Int) (x11 : Bool) (x12 : Bool) (σ : Sg) : Option ((Bool × Bool × Int × Int) ⊕ (Bool × Bool)) :=
B_X11_list_91 x7 x8 x9 x10 x11 x12 true σ
def B_X11_list_61 (x6 : Bool) (x7 : Bool) (x8 : Int) (x9 : Int) (x10 : Int) (y0 : Bool) (σ : Sg) : Option ((Bool × Bool × Int × Int) ⊕ (Bool × Bool)) :=
bnd (F_X11_isPattern x10 σ) fun v5 =>
if x6 = true then
if y0 = true then
if v5 = true then
B_X11_list_86 x7 x8 x9 x10 y0 v5 σ
else
B_X11_list_90 x7 x8 x9 x10 y0 v5 σ
else
B_X11_list_86 x7 x8 x9 x10 y0 v5 σ
else
B_X11_list_90 x7 x8 x9 x10 y0 v5 σ
def B_X11_list_60 (x6 : Bool) (x7 : Bool) (x8 : Int) (x9 : Int) (x10 : Int) (σ : Sg) : Option ((Bool × Bool × Int × Int) ⊕ (Bool × Bool)) :=
B_X11_list_61 x6 x7 x8 x9 x10 false σ
def B_X11_list_43 (x1 : Int) (x5 : Bool) (x6 : Bool) (x7 : Bool) (x8 : Int) (x9 : Int) (y0 : Int) (σ : Sg) : Option ((Bool × Bool × Int × Int) ⊕ (Bool × Bool)) :=
if x5 = true then
if x1 ≤ x9 then
B_X11_list_60 x6 x7 x8 x9 y0 σ
else
B_X11_list_61 x6 x7 x8 x9 y0 true σ
else
B_X11_list_60 x6 x7 x8 x9 y0 σ
def L_X11_list_27 (x1 : Int) (x2 : Int) (x3 : Int) (x5 : Bool) (σ : Sg) (x6 : Bool) (x7 : Bool) (x8 : Int) (x9 : Int) : Option ((Bool × Bool × Int × Int) ⊕ (Bool × Bool)) :=
if 2 ≤ x9 then
some (.inr (x6, x7))
else
if x9 = 0 then
B_X11_list_43 x1 x5 x6 x7 x8 x9 x2 σ
else
B_X11_list_43 x1 x5 x6 x7 x8 x9 x3 σ
def B_X11_list_250 (x1 : Int) (x2 : Int) (x3 : Int) (x4 : Int) (y0 : Int) (σ : Sg) : Option (Int × Sg) :=
bnd (F_X11_refused y0 σ) fun q17 =>
if q17.1 = true then
some (0, q17.2)
else
(F_X11_pattern 6 x1 x4 x2 x3 (-1) 5 q17.2).bind fun q19 =>
some (q19.1, q19.2)
def B_X11_list_217 (x1 : Int) (x2 : Int) (x3 : Int) (x4 : Int) (x6 : Bool) (y0 : Bool) (σ : Sg) : Option (Int × Sg) :=
if x6 = true then
if y0 = true then
if (F_X11_isFull σ) = true then
B_X11_list_250 x1 x2 x3 x4 3 σ
else
B_X11_list_250 x1 x2 x3 x4 0 σ
else
B_X11_list_250 x1 x2 x3 x4 2 σ
else
B_X11_list_250 x1 x2 x3 x4 1 σ
def B_X11_list_216 (x1 : Int) (x2 : Int) (x3 : Int) (x4 : Int) (x6 : Bool) (σ : Sg) : Option (Int × Sg) :=
B_X11_list_217 x1 x2 x3 x4 x6 false σ
def F_X11_list (a1 : Int) (a2 : Int) (a3 : Int) (a4 : Int) (σ : Sg) : Option (Int × Sg) :=
bnd (F_X11_in a1 0 2) fun v1 =>
bnd (F_X11_in a4 0 2) fun v3 =>
(iter (fun a : (Bool × Bool × Int × Int) => L_X11_list_27 a1 a2 a3 v1 σ a.1 a.2.1 a.2.2.1 a.2.2.2) 3 (v3, v1, 0, 0)).bind fun y15 =>
if y15.1 = true then
if y15.2 = true then
(F_X11_depthOf a2 a3 (-1) σ).bind fun q21 =>
if 4 < q21 then
B_X11_list_216 a1 a2 a3 a4 y15.1 σ
else
(F_X11_sizeOf a2 a3 (-1) σ).bind fun q23 =>
if 40 < q23 then
B_X11_list_216 a1 a2 a3 a4 y15.1 σ
else
B_X11_list_217 a1 a2 a3 a4 y15.1 true σ
else
B_X11_list_216 a1 a2 a3 a4 y15.1 σ
else
B_X11_list_216 a1 a2 a3 a4 y15.1 σ
def B_X11_setView_76 (x1 : Int) (x2 : Int) (x3 : Int) (x4 : Int) (x5 : Int) (y0 : Int) (σ : Sg) : Option (Int × Sg) :=
bnd (F_X11_refused y0 σ) fun q1 =>
if q1.1 = true then
some (0, q1.2)
else
(rdn 12 q1.2 18 (wrap ((wrap (4 * x1)) + 3))).bind fun v3 =>
(wrn 12 q1.2 18 (wrap (4 * x1)) x2).bind fun s5 =>
(wrn 12 s5 18 (wrap ((wrap (4 * x1)) + 1)) x3).bind fun s7 =>
(wrn 12 s7 18 (wrap ((wrap (4 * x1)) + 2)) x4).bind fun s9 =>
(wrn 12 s9 18 (wrap ((wrap (4 * x1)) + 3)) x5).bind fun s11 =>
bnd (up2 s11 0 54 (-1)) fun s13 =>
some (v3, s13)
def B_X11_setView_50 (x1 : Int) (x2 : Int) (x3 : Int) (x4 : Int) (x5 : Int) (y0 : Bool) (σ : Sg) : Option (Int × Sg) :=
if (F_X11_in x1 0 2) = true then
if y0 = true then
B_X11_setView_76 x1 x2 x3 x4 x5 0 σ
else
B_X11_setView_76 x1 x2 x3 x4 x5 2 σ
else
B_X11_setView_76 x1 x2 x3 x4 x5 1 σ
def B_X11_setView_49 (x1 : Int) (x2 : Int) (x3 : Int) (x4 : Int) (x5 : Int) (σ : Sg) : Option (Int × Sg) :=
B_X11_setView_50 x1 x2 x3 x4 x5 false σ
def F_X11_setView (a1 : Int) (a2 : Int) (a3 : Int) (a4 : Int) (a5 : Int) (σ : Sg) : Option (Int × Sg) :=
if (F_X11_in a2 (-9) 9) = true then
if (F_X11_in a3 (-9) 9) = true then
if (F_X11_in a4 (-9) 9) = true then
if (F_X11_in a5 1 10) = true then
B_X11_setView_50 a1 a2 a3 a4 a5 true σ
else
B_X11_setView_49 a1 a2 a3 a4 a5 σ
else
B_X11_setView_49 a1 a2 a3 a4 a5 σ
else
B_X11_setView_49 a1 a2 a3 a4 a5 σ
else
B_X11_setView_49 a1 a2 a3 a4 a5 σ
def B_X11_begin_60 (x6 : Int) (y0 : Bool) (σ : Sg) : Option ((Bool × Int) ⊕ Bool) :=
some (.inl (y0, wrap (x6 + 1)))
def B_X11_begin_59 (x6 : Int) (σ : Sg) : Option ((Bool × Int) ⊕ Bool) :=
B_X11_begin_60 x6 false σ
def B_X11_begin_55 (x6 : Int) (σ : Sg) : Option ((Bool × Int) ⊕ Bool) :=
B_X11_begin_60 x6 true σ
def L_X11_begin_11 (x1 : Int) (x2 : Int) (x3 : Int) (x4 : Int) (σ : Sg) (x5 : Bool) (x6 : Int) : Option ((Bool × Int) ⊕ Bool) :=
if 3 ≤ x6 then
some (.inr x5)
else
bnd (F_X11_pick x2 x3 x4 x6) fun v3 =>
if x5 = true then
if x1 ≤ x6 then
if v3 = 0 then
B_X11_begin_55 x6 σ
else
B_X11_begin_59 x6 σ
else
if (F_X11_isKind v3) = true then
B_X11_begin_55 x6 σ
else
B_X11_begin_59 x6 σ
else
B_X11_begin_59 x6 σ
def L_X11_begin_101 (x2 : Int) (x3 : Int) (x4 : Int) (x7 : Int) (σ : Sg) : Option ((Int × Sg) ⊕ Sg) :=
if 3 ≤ x7 then
some (.inr σ)
else
(wrn 3 σ 19 x7 (F_X11_pick x2 x3 x4 x7)).bind fun s13 =>
some (.inl (wrap (x7 + 1), s13))
def B_X11_begin_79 (x1 : Int) (x2 : Int) (x3 : Int) (x4 : Int) (y0 : Bool) (σ : Sg) : Option (Int × Sg) :=
bnd (F_X11_refused (b2i y0) σ) fun q7 =>
if q7.1 = true then
some (0, q7.2)
else
bnd (q7.2 0 23) fun v9 =>
bnd (up2 q7.2 0 21 x1) fun s11 =>
(iter (fun a : (Int × Sg) => L_X11_begin_101 x2 x3 x4 a.1 a.2) 4 (0, s11)).bind fun y15 =>
bnd (up2 y15 0 23 0) fun s17 =>
bnd (up2 s17 0 47 0) fun s19 =>
bnd (up2 s19 0 48 0) fun s21 =>
bnd (up2 s21 0 52 (-1)) fun s23 =>
bnd (up2 s23 0 54 (-1)) fun s25 =>
some (v9, s25)
def F_X11_begin (a1 : Int) (a2 : Int) (a3 : Int) (a4 : Int) (σ : Sg) : Option (Int × Sg) :=
bnd (F_X11_in a1 1 3) fun v1 =>
(iter (fun a : (Bool × Int) => L_X11_begin_11 a1 a2 a3 a4 σ a.1 a.2) 4 (v1, 0)).bind fun y5 =>
if y5 = true then
B_X11_begin_79 a1 a2 a3 a4 false σ
else
B_X11_begin_79 a1 a2 a3 a4 true σ
def L_X11_copyCase_2 (x1 : Int) (x2 : Int) (x3 : Int) (σ : Sg) : Option ((Int × Sg) ⊕ Sg) :=
if 3 ≤ x3 then
some (.inr σ)
else
(rdn 24 σ 20 (wrap ((wrap (3 * x1)) + x3))).bind fun v1 =>
(wrn 24 σ 20 (wrap ((wrap (3 * x2)) + x3)) v1).bind fun s3 =>
some (.inl (wrap (x3 + 1), s3))
def F_X11_copyCase (a1 : Int) (a2 : Int) (σ : Sg) : Option Sg :=
(iter (fun a : (Int × Sg) => L_X11_copyCase_2 a1 a2 a.1 a.2) 4 (0, σ)).bind fun y5 =>
(rdn 8 y5 21 a1).bind fun v7 =>
(wrn 8 y5 21 a2 v7).bind fun s9 =>
(rdn 8 s9 22 a1).bind fun v11 =>
(wrn 8 s9 22 a2 v11).bind fun s13 =>
(rdn 8 s13 23 a1).bind fun v15 =>
(wrn 8 s13 23 a2 v15).bind fun s17 =>
(rdn 8 s17 24 a1).bind fun v19 =>
(wrn 8 s17 24 a2 v19).bind fun s21 =>
(rdn 8 s21 25 a1).bind fun v23 =>
(wrn 8 s21 25 a2 v23).bind fun s25 =>
some s25
def L_X11_open_5 (x1 : Int) (x2 : Int) (σ : Sg) : Option ((Int × Sg) ⊕ Sg) :=
if x2 ≤ x1 then
some (.inr σ)
else
(F_X11_copyCase (wrap (x2 - 1)) x2 σ).bind fun q3 =>
some (.inl (wrap (x2 + (-1)), q3))
def F_X11_open (a1 : Int) (σ : Sg) : Option Sg :=
bnd (σ 0 23) fun v1 =>
(iter (fun a : (Int × Sg) => L_X11_open_5 a1 a.1 a.2) 3000 (v1, σ)).bind fun y5 =>
bnd (up2 y5 0 23 (wrap ((y5 0 23) + 1))) fun s7 =>
(wrn 8 s7 25 a1 0).bind fun s9 =>
(wrn 8 s9 22 a1 (-1)).bind fun s11 =>
bnd (up2 s11 0 54 (-1)) fun s13 =>
some s13
def B_X11_add_164 (x5 : Bool) (x6 : Bool) (x8 : Int) (y0 : Int) (y1 : Int) (σ : Sg) : Option ((Bool × Bool × Int × Int) ⊕ (Bool × Bool)) :=
bnd (jor y1 y0) fun v7 =>
some (.inl (x5, x6, v7, wrap (x8 + 1)))
def B_X11_add_163 (x5 : Bool) (x6 : Bool) (x8 : Int) (y0 : Int) (σ : Sg) : Option ((Bool × Bool × Int × Int) ⊕ (Bool × Bool)) :=
B_X11_add_164 x5 x6 x8 0 y0 σ
def B_X11_add_139 (x5 : Bool) (x7 : Int) (x8 : Int) (x9 : Int) (x10 : Bool) (x11 : Bool) (y0 : Bool) (σ : Sg) : Option ((Bool × Bool × Int × Int) ⊕ (Bool × Bool)) :=
if x10 = true then
if x11 = true then
(rdn 60 σ 15 x9).bind fun v9 =>
B_X11_add_164 x5 y0 x8 v9 x7 σ
else
B_X11_add_163 x5 y0 x8 x7 σ
else
B_X11_add_163 x5 y0 x8 x7 σ
def B_X11_add_138 (x5 : Bool) (x7 : Int) (x8 : Int) (x9 : Int) (x10 : Bool) (x11 : Bool) (σ : Sg) : Option ((Bool × Bool × Int × Int) ⊕ (Bool × Bool)) :=
B_X11_add_139 x5 x7 x8 x9 x10 x11 false σ
def B_X11_add_134 (x5 : Bool) (x7 : Int) (x8 : Int) (x9 : Int) (x10 : Bool) (x11 : Bool) (σ : Sg) : Option ((Bool × Bool × Int × Int) ⊕ (Bool × Bool)) :=
B_X11_add_139 x5 x7 x8 x9 x10 x11 true σ
def B_X11_add_79 (x6 : Bool) (x7 : Int) (x8 : Int) (x9 : Int) (x10 : Bool) (x11 : Bool) (y0 : Bool) (σ : Sg) : Option ((Bool × Bool × Int × Int) ⊕ (Bool × Bool)) :=
if x6 = true then
if x10 = true then
if x11 = true then
(rdn 3 σ 19 x8).bind fun v11 =>
(F_X11_suits x9 v11 σ).bind fun q13 =>
if q13 = true then
(rdn 60 σ 15 x9).bind fun v15 =>
if (jand v15 x7) = 0 then
B_X11_add_134 y0 x7 x8 x9 x10 x11 σ
else
B_X11_add_138 y0 x7 x8 x9 x10 x11 σ
else
B_X11_add_138 y0 x7 x8 x9 x10 x11 σ
else
B_X11_add_138 y0 x7 x8 x9 x10 x11 σ
else
if x9 = (-1) then
B_X11_add_134 y0 x7 x8 x9 x10 x11 σ
else
B_X11_add_138 y0 x7 x8 x9 x10 x11 σ
else
B_X11_add_138 y0 x7 x8 x9 x10 x11 σ
def B_X11_add_78 (x6 : Bool) (x7 : Int) (x8 : Int) (x9 : Int) (x10 : Bool) (x11 : Bool) (σ : Sg) : Option ((Bool × Bool × Int × Int) ⊕ (Bool × Bool)) :=
B_X11_add_79 x6 x7 x8 x9 x10 x11 false σ
def B_X11_add_74 (x6 : Bool) (x7 : Int) (x8 : Int) (x9 : Int) (x10 : Bool) (x11 : Bool) (σ : Sg) : Option ((Bool × Bool × Int × Int) ⊕ (Bool × Bool)) :=
B_X11_add_79 x6 x7 x8 x9 x10 x11 true σ
def B_X11_add_49 (x5 : Bool) (x6 : Bool) (x7 : Int) (x8 : Int) (x9 : Int) (y0 : Bool) (σ : Sg) : Option ((Bool × Bool × Int × Int) ⊕ (Bool × Bool)) :=
bnd (F_X11_isPattern x9 σ) fun v5 =>
if x5 = true then
if y0 = true then
if v5 = true then
B_X11_add_74 x6 x7 x8 x9 y0 v5 σ
else
B_X11_add_78 x6 x7 x8 x9 y0 v5 σ
else
B_X11_add_74 x6 x7 x8 x9 y0 v5 σ
else
B_X11_add_78 x6 x7 x8 x9 y0 v5 σ
def L_X11_add_19 (x1 : Int) (x2 : Int) (x3 : Int) (σ : Sg) (x5 : Bool) (x6 : Bool) (x7 : Int) (x8 : Int) : Option ((Bool × Bool × Int × Int) ⊕ (Bool × Bool)) :=
if 3 ≤ x8 then
some (.inr (x5, x6))
else
bnd (F_X11_pick x1 x2 x3 x8) fun v3 =>
if (σ 0 21) ≤ x8 then
B_X11_add_49 x5 x6 x7 x8 v3 false σ
else
B_X11_add_49 x5 x6 x7 x8 v3 true σ
def L_X11_add_236 (x1 : Int) (x2 : Int) (x3 : Int) (x8 : Int) (x9 : Int) (σ : Sg) : Option ((Int × Sg) ⊕ Sg) :=
if 3 ≤ x9 then
some (.inr σ)
else
(wrn 24 σ 20 (wrap ((wrap (3 * x8)) + x9)) (F_X11_pick x1 x2 x3 x9)).bind fun s25 =>
some (.inl (wrap (x9 + 1), s25))
def B_X11_add_213 (x1 : Int) (x2 : Int) (x3 : Int) (x4 : Int) (y0 : Int) (σ : Sg) : Option (Int × Sg) :=
bnd (F_X11_refused y0 σ) fun q19 =>
if q19.1 = true then
some (0, q19.2)
else
bnd (q19.2 0 23) fun v21 =>
(F_X11_open v21 q19.2).bind fun q23 =>
(iter (fun a : (Int × Sg) => L_X11_add_236 x1 x2 x3 v21 a.1 a.2) 4 (0, q23)).bind fun y27 =>
(wrn 8 y27 21 v21 x4).bind fun s29 =>
some (v21, s29)
def B_X11_add_208 (x1 : Int) (x2 : Int) (x3 : Int) (x4 : Int) (σ : Sg) : Option (Int × Sg) :=
B_X11_add_213 x1 x2 x3 x4 3 σ
def F_X11_add (a1 : Int) (a2 : Int) (a3 : Int) (a4 : Int) (σ : Sg) : Option (Int × Sg) :=
bnd (F_X11_in a4 0 99) fun v1 =>
(iter (fun a : (Bool × Bool × Int × Int) => L_X11_add_19 a1 a2 a3 σ a.1 a.2.1 a.2.2.1 a.2.2.2) 4 (true, v1, 0, 0)).bind fun y17 =>
if y17.1 = true then
if y17.2 = true then
if (σ 0 21) = 0 then
B_X11_add_208 a1 a2 a3 a4 σ
else
if (σ 0 23) = 8 then
B_X11_add_208 a1 a2 a3 a4 σ
else
B_X11_add_213 a1 a2 a3 a4 0 σ
else
B_X11_add_213 a1 a2 a3 a4 2 σ
else
B_X11_add_213 a1 a2 a3 a4 1 σ
def F_X11_isCase (a1 : Int) (σ : Sg) : Bool :=
F_X11_in a1 0 (wrap ((σ 0 23) - 1))
def L_X11_bindsNumber_11 (x1 : Int) (x3 : Int) (x6 : Int) (σ : Sg) : Option ((Int × Int × Sg) ⊕ (Int × Sg)) :=
if (σ 0 21) ≤ x6 then
some (.inr (x3, σ))
else
(rdn 24 σ 20 (wrap ((wrap (3 * x1)) + x6))).bind fun v1 =>
(wrn 256 σ 26 x3 v1).bind fun s3 =>
(rdn 3 s3 19 x6).bind fun v5 =>
(wrn 256 s3 27 x3 v5).bind fun s7 =>
some (.inl (wrap (x3 + 1), wrap (x6 + 1), s7))
def B_X11_bindsNumber_246 (x3 : Int) (x9 : Int) (σ : Sg) : Option ((Int × Int × Sg) ⊕ (Int × Sg)) :=
some (.inl (x3, wrap (x9 + 1), σ))
def B_X11_bindsNumber_242 (x3 : Int) (x9 : Int) (y0 : Int) (y1 : Int) (σ : Sg) : Option ((Int × Int × Sg) ⊕ (Int × Sg)) :=
(wrn 256 σ 27 y1 y0).bind fun s25 =>
B_X11_bindsNumber_246 (wrap (x3 + 1)) x9 s25
def L_X11_bindsNumber_154 (x6 : Int) (x7 : Int) (x3 : Int) (x9 : Int) (σ : Sg) : Option ((Int × Int × Sg) ⊕ (Int × Sg)) :=
if 3 ≤ x9 then
some (.inr (x3, σ))
else
(rdn 180 σ 11 (wrap ((wrap (3 * x6)) + x9))).bind fun v17 =>
if v17 = (-1) then
B_X11_bindsNumber_246 x3 x9 σ
else
(wrn 256 σ 26 x3 v17).bind fun s19 =>
(rdn 60 s19 8 x6).bind fun v21 =>
if v21 = 3 then
(rdn 60 s19 9 x6).bind fun v27 =>
(rdn 48 s19 3 (wrap ((wrap (3 * v27)) + x9))).bind fun v29 =>
B_X11_bindsNumber_242 x3 x9 v29 x3 s19
else
(rdn 60 s19 8 x6).bind fun v23 =>
if v23 = 6 then
B_X11_bindsNumber_242 x3 x9 4 x3 s19
else
B_X11_bindsNumber_242 x3 x9 x7 x3 s19
def B_X11_bindsNumber_149 (x3 : Int) (x4 : Bool) (x6 : Int) (x7 : Int) (y0 : Bool) (σ : Sg) : Option ((Int × Bool × Bool × Sg) ⊕ (Bool × Bool × Sg)) :=
(iter (fun a : (Int × Int × Sg) => L_X11_bindsNumber_154 x6 x7 a.1 a.2.1 a.2.2) 4 (x3, 0, σ)).bind fun y31 =>
some (.inl (y31.1, x4, y0, y31.2))
def B_X11_bindsNumber_148 (x3 : Int) (x4 : Bool) (x6 : Int) (x7 : Int) (σ : Sg) : Option ((Int × Bool × Bool × Sg) ⊕ (Bool × Bool × Sg)) :=
B_X11_bindsNumber_149 x3 x4 x6 x7 false σ
def B_X11_bindsNumber_144 (x3 : Int) (x4 : Bool) (x6 : Int) (x7 : Int) (σ : Sg) : Option ((Int × Bool × Bool × Sg) ⊕ (Bool × Bool × Sg)) :=
B_X11_bindsNumber_149 x3 x4 x6 x7 true σ
def B_X11_bindsNumber_126 (x3 : Int) (x5 : Bool) (x6 : Int) (x7 : Int) (x8 : Bool) (y0 : Bool) (σ : Sg) : Option ((Int × Bool × Bool × Sg) ⊕ (Bool × Bool × Sg)) :=
if x5 = true then
if x8 = true then
if x7 = 4 then
B_X11_bindsNumber_144 x3 y0 x6 x7 σ
else
B_X11_bindsNumber_148 x3 y0 x6 x7 σ
else
B_X11_bindsNumber_144 x3 y0 x6 x7 σ
else
B_X11_bindsNumber_148 x3 y0 x6 x7 σ
def B_X11_bindsNumber_121 (x3 : Int) (x5 : Bool) (x6 : Int) (x7 : Int) (x8 : Bool) (σ : Sg) : Option ((Int × Bool × Bool × Sg) ⊕ (Bool × Bool × Sg)) :=
B_X11_bindsNumber_126 x3 x5 x6 x7 x8 true σ
def B_X11_bindsNumber_109 (x3 : Int) (x4 : Bool) (x5 : Bool) (x6 : Int) (x7 : Int) (y0 : Bool) (σ : Sg) : Option ((Int × Bool × Bool × Sg) ⊕ (Bool × Bool × Sg)) :=
if x4 = true then
B_X11_bindsNumber_121 x3 x5 x6 x7 y0 σ
else
if y0 = true then
B_X11_bindsNumber_121 x3 x5 x6 x7 y0 σ
else
B_X11_bindsNumber_126 x3 x5 x6 x7 y0 false σ
def B_X11_bindsNumber_108 (x3 : Int) (x4 : Bool) (x5 : Bool) (x6 : Int) (x7 : Int) (σ : Sg) : Option ((Int × Bool × Bool × Sg) ⊕ (Bool × Bool × Sg)) :=
B_X11_bindsNumber_109 x3 x4 x5 x6 x7 false σ
def L_X11_bindsNumber_59 (x2 : Int) (x3 : Int) (x4 : Bool) (x5 : Bool) (σ : Sg) : Option ((Int × Bool × Bool × Sg) ⊕ (Bool × Bool × Sg)) :=
if x3 ≤ 0 then
some (.inr (x4, x5, σ))
else
(rdn 256 σ 26 (wrap (x3 + (-1)))).bind fun v11 =>
(rdn 256 σ 27 (wrap (x3 + (-1)))).bind fun v13 =>
(rdn 60 σ 8 v11).bind fun v15 =>
if v15 = 1 then
(rdn 60 σ 9 v11).bind fun v33 =>
if v33 = x2 then
B_X11_bindsNumber_109 (wrap (x3 + (-1))) x4 x5 v11 v13 true σ
else
B_X11_bindsNumber_108 (wrap (x3 + (-1))) x4 x5 v11 v13 σ
else
B_X11_bindsNumber_108 (wrap (x3 + (-1))) x4 x5 v11 v13 σ
def F_X11_bindsNumber (a1 : Int) (a2 : Int) (σ : Sg) : Option (Bool × Sg) :=
(iter (fun a : (Int × Int × Sg) => L_X11_bindsNumber_11 a1 a.1 a.2.1 a.2.2) 3000 (0, 0, σ)).bind fun y9 =>
(iter (fun a : (Int × Bool × Bool × Sg) => L_X11_bindsNumber_59 a2 a.1 a.2.1 a.2.2.1 a.2.2.2) 3000 (y9.1, false, true, y9.2)).bind fun y35 =>
if y35.1 = true then
if y35.2.1 = true then
some (true, y35.2.2)
else
some (false, y35.2.2)
else
some (false, y35.2.2)
def B_X11_guard_97 (x1 : Int) (x2 : Int) (x3 : Int) (x4 : Int) (y0 : Int) (σ : Sg) : Option (Int × Sg) :=
bnd (F_X11_refused y0 σ) fun q1 =>
if q1.1 = true then
some (0, q1.2)
else
(rdn 8 q1.2 22 x1).bind fun v3 =>
(wrn 8 q1.2 22 x1 x2).bind fun s5 =>
(wrn 8 s5 23 x1 x3).bind fun s7 =>
(wrn 8 s7 24 x1 x4).bind fun s9 =>
bnd (up2 s9 0 54 (-1)) fun s11 =>
some (v3, s11)
def B_X11_guard_75 (x1 : Int) (x2 : Int) (x3 : Int) (x4 : Int) (x5 : Bool) (y0 : Bool) (σ : Sg) : Option (Int × Sg) :=
if x5 = true then
if y0 = true then
B_X11_guard_97 x1 x2 x3 x4 0 σ
else
B_X11_guard_97 x1 x2 x3 x4 2 σ
else
B_X11_guard_97 x1 x2 x3 x4 1 σ
def B_X11_guard_74 (x1 : Int) (x2 : Int) (x3 : Int) (x4 : Int) (x5 : Bool) (σ : Sg) : Option (Int × Sg) :=
B_X11_guard_75 x1 x2 x3 x4 x5 false σ
def B_X11_guard_70 (x1 : Int) (x2 : Int) (x3 : Int) (x4 : Int) (x5 : Bool) (σ : Sg) : Option (Int × Sg) :=
B_X11_guard_75 x1 x2 x3 x4 x5 true σ
def B_X11_guard_31 (x1 : Int) (x2 : Int) (x3 : Int) (x4 : Int) (y0 : Bool) (σ : Sg) : Option (Int × Sg) :=
if y0 = true then
if (F_X11_in x4 0 9) = true then
if x2 = (-1) then
if x3 = 0 then
B_X11_guard_70 x1 x2 x3 x4 y0 σ
else
B_X11_guard_74 x1 x2 x3 x4 y0 σ
else
(F_X11_bindsNumber x1 x3 σ).bind fun q13 =>
if q13.1 = true then
B_X11_guard_70 x1 x2 x3 x4 y0 q13.2
else
B_X11_guard_74 x1 x2 x3 x4 y0 q13.2
else
B_X11_guard_74 x1 x2 x3 x4 y0 σ
else
B_X11_guard_74 x1 x2 x3 x4 y0 σ
def B_X11_guard_30 (x1 : Int) (x2 : Int) (x3 : Int) (x4 : Int) (σ : Sg) : Option (Int × Sg) :=
B_X11_guard_31 x1 x2 x3 x4 false σ
def F_X11_guard (a1 : Int) (a2 : Int) (a3 : Int) (a4 : Int) (σ : Sg) : Option (Int × Sg) :=
if (F_X11_isCase a1 σ) = true then
if (F_X11_in a2 (-1) 3) = true then
if (F_X11_in a3 0 5) = true then
B_X11_guard_31 a1 a2 a3 a4 true σ
else
B_X11_guard_30 a1 a2 a3 a4 σ
else
B_X11_guard_30 a1 a2 a3 a4 σ
else
B_X11_guard_30 a1 a2 a3 a4 σ
def B_X11_split_118 (x1 : Int) (x2 : Int) (x4 : Int) (y0 : Int) (σ : Sg) : Option (Int × Sg) :=
bnd (F_X11_refused y0 σ) fun q1 =>
if q1.1 = true then
some (0, q1.2)
else
(F_X11_open x1 q1.2).bind fun q3 =>
(F_X11_copyCase (wrap (x1 + 1)) x1 q3).bind fun q5 =>
(wrn 8 q5 25 x1 0).bind fun s7 =>
(wrn 8 s7 25 (wrap (x1 + 1)) 0).bind fun s9 =>
(rdn 180 s9 11 (wrap (3 * x4))).bind fun v11 =>
(wrn 24 s9 20 (wrap ((wrap (3 * x1)) + x2)) v11).bind fun s13 =>
(rdn 180 s13 11 (wrap ((wrap (3 * x4)) + 1))).bind fun v15 =>
(wrn 24 s13 20 (wrap ((wrap ((wrap (3 * x1)) + 3)) + x2)) v15).bind fun s17 =>
some (s17 0 23, s17)
def B_X11_split_97 (x1 : Int) (x2 : Int) (x3 : Bool) (x4 : Int) (y0 : Bool) (σ : Sg) : Option (Int × Sg) :=
if x3 = true then
if y0 = true then
B_X11_split_118 x1 x2 x4 0 σ
else
B_X11_split_118 x1 x2 x4 2 σ
else
B_X11_split_118 x1 x2 x4 1 σ
def B_X11_split_96 (x1 : Int) (x2 : Int) (x3 : Bool) (x4 : Int) (σ : Sg) : Option (Int × Sg) :=
B_X11_split_97 x1 x2 x3 x4 false σ
def B_X11_split_46 (x1 : Int) (x2 : Int) (x3 : Bool) (y0 : Int) (σ : Sg) : Option (Int × Sg) :=
if x3 = true then
(rdn 8 σ 22 x1).bind fun v19 =>
if v19 = (-1) then
(rdn 60 σ 8 y0).bind fun v21 =>
if v21 = 4 then
(rdn 60 σ 16 y0).bind fun v23 =>
if v23 = 0 then
if 8 ≤ (σ 0 23) then
B_X11_split_96 x1 x2 x3 y0 σ
else
B_X11_split_97 x1 x2 x3 y0 true σ
else
B_X11_split_96 x1 x2 x3 y0 σ
else
B_X11_split_96 x1 x2 x3 y0 σ
else
B_X11_split_96 x1 x2 x3 y0 σ
else
B_X11_split_96 x1 x2 x3 y0 σ
def B_X11_split_27 (x1 : Int) (x2 : Int) (y0 : Bool) (σ : Sg) : Option (Int × Sg) :=
if y0 = true then
(rdn 24 σ 20 (wrap ((wrap (3 * x1)) + x2))).bind fun v25 =>
B_X11_split_46 x1 x2 y0 v25 σ
else
B_X11_split_46 x1 x2 y0 0 σ
def B_X11_split_26 (x1 : Int) (x2 : Int) (σ : Sg) : Option (Int × Sg) :=
B_X11_split_27 x1 x2 false σ
def F_X11_split (a1 : Int) (a2 : Int) (σ : Sg) : Option (Int × Sg) :=
if (F_X11_isCase a1 σ) = true then
if (F_X11_in a2 0 (wrap ((σ 0 21) - 1))) = true then
B_X11_split_27 a1 a2 true σ
else
B_X11_split_26 a1 a2 σ
else
B_X11_split_26 a1 a2 σ
def B_X11_merge_193 (x5 : Int) (y0 : Bool) (σ : Sg) : Option ((Bool × Int) ⊕ Bool) :=
some (.inl (y0, wrap (x5 + 1)))
def B_X11_merge_177 (x5 : Int) (σ : Sg) : Option ((Bool × Int) ⊕ Bool) :=
B_X11_merge_193 x5 false σ
def L_X11_merge_87 (x1 : Int) (x2 : Int) (σ : Sg) (x4 : Bool) (x5 : Int) : Option ((Bool × Int) ⊕ Bool) :=
if (σ 0 21) ≤ x5 then
some (.inr x4)
else
if x4 = true then
(rdn 24 σ 20 (wrap ((wrap (3 * x1)) + x5))).bind fun v1 =>
(rdn 24 σ 20 (wrap ((wrap ((wrap (3 * x1)) + 3)) + x5))).bind fun v3 =>
if x5 = x2 then
(rdn 60 σ 16 v1).bind fun v5 =>
if v5 = 0 then
(rdn 60 σ 16 v3).bind fun v7 =>
if v7 = 0 then
(F_X11_areAlternatives v1 v3 σ).bind fun q9 =>
if q9 = true then
if (F_X11_isFull σ) = true then
B_X11_merge_177 x5 σ
else
B_X11_merge_193 x5 true σ
else
B_X11_merge_177 x5 σ
else
B_X11_merge_177 x5 σ
else
B_X11_merge_177 x5 σ
else
if v1 = v3 then
B_X11_merge_193 x5 true σ
else
B_X11_merge_193 x5 false σ
else
some (.inr x4)
def L_X11_merge_276 (x5 : Int) (σ : Sg) : Option ((Int × Sg) ⊕ Sg) :=
if (wrap ((σ 0 23) - 1)) ≤ x5 then
some (.inr σ)
else
(F_X11_copyCase (wrap (x5 + 1)) x5 σ).bind fun q27 =>
some (.inl (wrap (x5 + 1), q27))
def B_X11_merge_220 (x1 : Int) (x2 : Int) (y0 : Int) (σ : Sg) : Option (Int × Sg) :=
bnd (F_X11_refused y0 σ) fun q13 =>
if q13.1 = true then
some (0, q13.2)
else
(rdn 24 q13.2 20 (wrap ((wrap (3 * x1)) + x2))).bind fun v15 =>
(rdn 24 q13.2 20 (wrap ((wrap ((wrap (3 * x1)) + 3)) + x2))).bind fun v17 =>
(F_X11_alternatives v15 v17 q13.2).bind fun q19 =>
(wrn 24 q19.2 20 (wrap ((wrap (3 * x1)) + x2)) q19.1).bind fun s21 =>
(wrn 8 s21 25 x1 0).bind fun s23 =>
bnd (wrap (x1 + 1)) fun v25 =>
(iter (fun a : (Int × Sg) => L_X11_merge_276 a.1 a.2) 3000 (v25, s23)).bind fun y29 =>
bnd (up2 y29 0 23 (wrap ((y29 0 23) - 1))) fun s31 =>
bnd (up2 s31 0 54 (-1)) fun s33 =>
some (s33 0 23, s33)
def B_X11_merge_82 (x1 : Int) (x2 : Int) (x3 : Bool) (y0 : Bool) (σ : Sg) : Option (Int × Sg) :=
(iter (fun a : (Bool × Int) => L_X11_merge_87 x1 x2 σ a.1 a.2) 3000 (y0, 0)).bind fun y11 =>
if x3 = true then
if y11 = true then
B_X11_merge_220 x1 x2 0 σ
else
B_X11_merge_220 x1 x2 2 σ
else
B_X11_merge_220 x1 x2 1 σ
def B_X11_merge_81 (x1 : Int) (x2 : Int) (x3 : Bool) (σ : Sg) : Option (Int × Sg) :=
B_X11_merge_82 x1 x2 x3 false σ
def B_X11_merge_33 (x1 : Int) (x2 : Int) (y0 : Bool) (σ : Sg) : Option (Int × Sg) :=
if y0 = true then
(rdn 8 σ 22 x1).bind fun v35 =>
if v35 = (-1) then
(rdn 8 σ 22 (wrap (x1 + 1))).bind fun v37 =>
if v37 = (-1) then
(rdn 8 σ 21 x1).bind fun v39 =>
(rdn 8 σ 21 (wrap (x1 + 1))).bind fun v41 =>
if v39 = v41 then
B_X11_merge_82 x1 x2 y0 true σ
else
B_X11_merge_81 x1 x2 y0 σ
else
B_X11_merge_81 x1 x2 y0 σ
else
B_X11_merge_81 x1 x2 y0 σ
else
B_X11_merge_81 x1 x2 y0 σ
def B_X11_merge_32 (x1 : Int) (x2 : Int) (σ : Sg) : Option (Int × Sg) :=
B_X11_merge_33 x1 x2 false σ
def F_X11_merge (a1 : Int) (a2 : Int) (σ : Sg) : Option (Int × Sg) :=
if (F_X11_in a1 0 (wrap ((σ 0 23) - 2))) = true then
if (F_X11_in a2 0 (wrap ((σ 0 21) - 1))) = true then
B_X11_merge_33 a1 a2 true σ
else
B_X11_merge_32 a1 a2 σ
else
B_X11_merge_32 a1 a2 σ
def L_X11_wayTo_4 (x2 : Int) (x3 : Int) (σ : Sg) : Option ((Int × Int × Sg) ⊕ (Int × Int × Sg)) :=
if x3 ≤ 3 then
some (.inr (x2, x3, σ))
else
(wrn 8 σ 34 x2 (jrem (wrap (x3 - 1)) 5)).bind fun s1 =>
bnd (jdiv (wrap (x3 - 1)) 5) fun v3 =>
some (.inl (wrap (x2 + 1), v3, s1))
def F_X11_wayTo (a1 : Int) (σ : Sg) : Option (Int × Sg) :=
(iter (fun a : (Int × Int × Sg) => L_X11_wayTo_4 a.1 a.2.1 a.2.2) 3000 (0, a1, σ)).bind fun y5 =>
(wrn 8 y5.2.2 34 y5.1 (wrap (y5.2.1 - 1))).bind fun s7 =>
some (y5.1, s7)
def B_X11_valueAt_65 (x4 : Int) (y0 : Int) (σ : Sg) : Option ((Int × Int) ⊕ Int) :=
some (.inl (y0, wrap (x4 + (-1))))
def L_X11_valueAt_23 (σ : Sg) (x3 : Int) (x4 : Int) : Option ((Int × Int) ⊕ Int) :=
if x4 < 0 then
some (.inr x3)
else
(rdn 8 σ 34 x4).bind fun v9 =>
(rdn 120 σ 6 (wrap ((wrap (3 * x3)) + v9))).bind fun v11 =>
(rdn 40 σ 4 x3).bind fun v13 =>
if v13 = 5 then
B_X11_valueAt_65 x4 (wrap ((-1) - v11)) σ
else
B_X11_valueAt_65 x4 v11 σ
def F_X11_valueAt (a1 : Int) (σ : Sg) : Option (Int × Sg) :=
(F_X11_wayTo a1 σ).bind fun q1 =>
(rdn 8 q1.2 34 q1.1).bind fun v3 =>
(rdn 3 q1.2 35 v3).bind fun v5 =>
bnd (wrap (q1.1 - 1)) fun v7 =>
(iter (fun a : (Int × Int) => L_X11_valueAt_23 q1.2 a.1 a.2) 3000 (v5, v7)).bind fun y15 =>
some (y15, q1.2)
def F_X11_headAt (a1 : Int) (σ : Sg) : Option (Int × Sg) :=
(F_X11_valueAt a1 σ).bind fun q1 =>
if 0 ≤ q1.1 then
(rdn 40 q1.2 5 q1.1).bind fun v3 =>
some (v3, q1.2)
else
some (wrap ((-1) - q1.1), q1.2)
def F_X11_measureAt (a1 : Int) (σ : Sg) : Option (Int × Sg) :=
(F_X11_valueAt a1 σ).bind fun q1 =>
if 0 ≤ q1.1 then
(rdn 40 q1.2 7 q1.1).bind fun v3 =>
some (v3, q1.2)
else
some (wrap ((-1) - q1.1), q1.2)
def B_X11_factAt_80 (x3 : Int) (y0 : Int) (σ : Sg) : Option ((Int × Int) ⊕ Int) :=
(rdn 512 σ 40 x3).bind fun v7 =>
some (.inl (y0, v7))
def B_X11_factAt_79 (x2 : Int) (x3 : Int) (σ : Sg) : Option ((Int × Int) ⊕ Int) :=
B_X11_factAt_80 x3 x2 σ
def L_X11_factAt_29 (x1 : Int) (σ : Sg) (x2 : Int) (x3 : Int) : Option ((Int × Int) ⊕ Int) :=
if x3 ≤ 0 then
some (.inr x2)
else
(rdn 512 σ 40 x3).bind fun v3 =>
(rdn 512 σ 41 v3).bind fun v5 =>
if v5 = 5 then
(rdn 512 σ 40 x3).bind fun v9 =>
(rdn 512 σ 43 v9).bind fun v11 =>
if v11 = x1 then
(rdn 512 σ 40 x3).bind fun v13 =>
(rdn 512 σ 44 v13).bind fun v15 =>
B_X11_factAt_80 x3 (wrap (x3 - v15)) σ
else
B_X11_factAt_79 x2 x3 σ
else
B_X11_factAt_79 x2 x3 σ
def F_X11_factAt (a1 : Int) (σ : Sg) : Option (Int × Sg) :=
if 0 ≤ a1 then
if (σ 0 40) = 0 then
bnd (σ 0 41) fun v1 =>
(iter (fun a : (Int × Int) => L_X11_factAt_29 a1 σ a.1 a.2) 3000 ((-9), v1)).bind fun y17 =>
some (y17, σ)
else
(F_X11_headAt a1 σ).bind fun q19 =>
some (q19.1, q19.2)
else
some (wrap ((-1) - a1), σ)
def B_X11_gave_160 (x4 : Int) (y0 : Int) (σ : Sg) : Option ((Int × Int) ⊕ Int) :=
some (.inl (y0, wrap (x4 + 1)))
def B_X11_gave_159 (x3 : Int) (x4 : Int) (σ : Sg) : Option ((Int × Int) ⊕ Int) :=
B_X11_gave_160 x4 x3 σ
def L_X11_gave_118 (x1 : Int) (x2 : Int) (σ : Sg) (x3 : Int) (x4 : Int) : Option ((Int × Int) ⊕ Int) :=
if (σ 0 48) ≤ x4 then
some (.inr x3)
else
(rdn 1500 σ 36 x4).bind fun v1 =>
if v1 = x1 then
(rdn 1500 σ 37 x4).bind fun v3 =>
if v3 = x2 then
(rdn 1500 σ 38 x4).bind fun v5 =>
B_X11_gave_160 x4 v5 σ
else
B_X11_gave_159 x3 x4 σ
else
B_X11_gave_159 x3 x4 σ
def B_X11_gave_100 (x4 : Int) (y0 : Int) (σ : Sg) : Option ((Int × Int) ⊕ Int) :=
(rdn 512 σ 40 x4).bind fun v39 =>
some (.inl (y0, v39))
def B_X11_gave_74 (x3 : Int) (x4 : Int) (y0 : Bool) (σ : Sg) : Option ((Int × Int) ⊕ Int) :=
if y0 = true then
(rdn 512 σ 40 x4).bind fun v41 =>
(rdn 512 σ 44 v41).bind fun v43 =>
B_X11_gave_100 x4 (wrap (x4 - v43)) σ
else
B_X11_gave_100 x4 x3 σ
def B_X11_gave_73 (x3 : Int) (x4 : Int) (σ : Sg) : Option ((Int × Int) ⊕ Int) :=
B_X11_gave_74 x3 x4 false σ
def L_X11_gave_16 (x1 : Int) (x2 : Int) (σ : Sg) (x3 : Int) (x4 : Int) : Option ((Int × Int) ⊕ Int) :=
if x4 ≤ 0 then
some (.inr x3)
else
(rdn 512 σ 40 x4).bind fun v35 =>
(rdn 512 σ 41 v35).bind fun v37 =>
if v37 = 4 then
(rdn 512 σ 40 x4).bind fun v45 =>
(rdn 512 σ 42 v45).bind fun v47 =>
if v47 = x1 then
(rdn 512 σ 40 x4).bind fun v49 =>
(rdn 512 σ 43 v49).bind fun v51 =>
if v51 = x2 then
B_X11_gave_74 x3 x4 true σ
else
B_X11_gave_73 x3 x4 σ
else
B_X11_gave_73 x3 x4 σ
else
B_X11_gave_73 x3 x4 σ
def F_X11_gave (a1 : Int) (a2 : Int) (σ : Sg) : Option (Int × Sg) :=
if (σ 0 40) = 0 then
bnd (σ 0 41) fun v33 =>
(iter (fun a : (Int × Int) => L_X11_gave_16 a1 a2 σ a.1 a.2) 3000 ((-9), v33)).bind fun y53 =>
some (y53, σ)
else
(iter (fun a : (Int × Int) => L_X11_gave_118 a1 a2 σ a.1 a.2) 3000 ((-9), 0)).bind fun y7 =>
if y7 = (-9) then
(rdn 12 σ 18 (wrap ((wrap (4 * a1)) + 3))).bind fun v9 =>
(rdn 12 σ 18 (wrap (4 * a1))).bind fun v11 =>
(F_X11_measureAt a2 σ).bind fun q13 =>
(rdn 12 q13.2 18 (wrap ((wrap (4 * a1)) + 1))).bind fun v15 =>
(rdn 12 q13.2 18 (wrap ((wrap (4 * a1)) + 2))).bind fun v17 =>
bnd (wrap ((wrap ((wrap (v11 * q13.1)) + (wrap (v15 * (q13.2 0 48))))) + v17)) fun v19 =>
(jremO v19 v9).bind fun v21 =>
(jremO (wrap (v21 + v9)) v9).bind fun v23 =>
(wrn 1500 q13.2 36 (q13.2 0 48) a1).bind fun s25 =>
(wrn 1500 s25 37 (s25 0 48) a2).bind fun s27 =>
(wrn 1500 s27 38 (s27 0 48) v23).bind fun s29 =>
bnd (up2 s29 0 48 (wrap ((s29 0 48) + 1))) fun s31 =>
some (v23, s31)
else
some (y7, σ)
def B_X11_hasFailed_65 (x3 : Int) (y0 : Bool) (σ : Sg) : Option ((Bool × Int) ⊕ Bool) :=
(rdn 512 σ 40 x3).bind fun v3 =>
some (.inl (y0, v3))
def B_X11_hasFailed_60 (x3 : Int) (σ : Sg) : Option ((Bool × Int) ⊕ Bool) :=
B_X11_hasFailed_65 x3 true σ
def B_X11_hasFailed_64 (x3 : Int) (σ : Sg) : Option ((Bool × Int) ⊕ Bool) :=
B_X11_hasFailed_65 x3 false σ
def L_X11_hasFailed_7 (x1 : Int) (σ : Sg) (x2 : Bool) (x3 : Int) : Option ((Bool × Int) ⊕ Bool) :=
if x3 ≤ 0 then
some (.inr x2)
else
if x2 = true then
B_X11_hasFailed_60 x3 σ
else
(rdn 512 σ 40 x3).bind fun v5 =>
(rdn 512 σ 41 v5).bind fun v7 =>
if v7 = 3 then
(rdn 512 σ 40 x3).bind fun v9 =>
(rdn 512 σ 42 v9).bind fun v11 =>
if v11 = x1 then
(rdn 512 σ 40 x3).bind fun v13 =>
(rdn 512 σ 44 v13).bind fun v15 =>
if x3 ≤ v15 then
B_X11_hasFailed_64 x3 σ
else
B_X11_hasFailed_60 x3 σ
else
B_X11_hasFailed_64 x3 σ
else
B_X11_hasFailed_64 x3 σ
def F_X11_hasFailed (a1 : Int) (σ : Sg) : Option Bool :=
bnd (σ 0 41) fun v1 =>
(iter (fun a : (Bool × Int) => L_X11_hasFailed_7 a1 σ a.1 a.2) 3000 (false, v1)).bind fun y17 =>
some y17
def F_X11_push (a1 : Int) (a2 : Int) (σ : Sg) : Option Sg :=
(wrn 256 σ 28 (σ 0 34) a1).bind fun s1 =>
(wrn 256 s1 29 (s1 0 34) a2).bind fun s3 =>
bnd (up2 s3 0 34 (wrap ((s3 0 34) + 1))) fun s5 =>
some s5
def F_X11_turns (σ : Sg) : Option (Bool × Sg) :=
if (σ 0 38) = 0 then
some (false, σ)
else
bnd (up2 σ 0 38 (wrap ((σ 0 38) - 1))) fun s1 =>
(rdn 64 s1 30 (s1 0 38)).bind fun v3 =>
bnd (up2 s1 0 34 v3) fun s5 =>
(rdn 64 s5 31 (s5 0 38)).bind fun v7 =>
(rdn 64 s5 32 (s5 0 38)).bind fun v9 =>
(F_X11_push v7 v9 s5).bind fun q11 =>
some (true, q11)
def B_X11_isAsked_16 (x1 : Int) (σ : Sg) : (Bool × Sg) :=
if x1 = (-9) then
(true, σ)
else
(false, σ)
def F_X11_isAsked (a1 : Int) (a2 : Int) (σ : Sg) : (Bool × Sg) :=
if a1 = (-9) then
bnd (up2 σ 0 42 5) fun s1 =>
bnd (up2 s1 0 44 a2) fun s3 =>
B_X11_isAsked_16 a1 s3
else
B_X11_isAsked_16 a1 σ
def F_X11_fitsLength (a1 : Int) (a2 : Int) (σ : Sg) : Option Bool :=
(rdn 60 σ 10 a1).bind fun v1 =>
if v1 = 0 then
(rdn 60 σ 9 a1).bind fun v5 =>
if a2 = v5 then
some true
else
some false
else
(rdn 60 σ 9 a1).bind fun v3 =>
if a2 < v3 then
some false
else
some true
def B_X11_pushParts_84 (x5 : Int) (σ : Sg) : Option ((Int × Sg) ⊕ Sg) :=
some (.inl (wrap (x5 + (-1)), σ))
def L_X11_pushParts_38 (x1 : Int) (x2 : Int) (x4 : Int) (x5 : Int) (σ : Sg) : Option ((Int × Sg) ⊕ Sg) :=
if x5 < 0 then
some (.inr σ)
else
(rdn 180 σ 11 (wrap ((wrap (3 * x1)) + x5))).bind fun v3 =>
if v3 = (-1) then
B_X11_pushParts_84 x5 σ
else
(rdn 180 σ 11 (wrap ((wrap (3 * x1)) + x5))).bind fun v5 =>
(F_X11_push v5 (wrap ((wrap ((wrap ((wrap (5 * x2)) + x4)) + x5)) + 1)) σ).bind fun q7 =>
B_X11_pushParts_84 x5 q7
def B_X11_pushParts_33 (x1 : Int) (x2 : Int) (y0 : Int) (σ : Sg) : Option Sg :=
(iter (fun a : (Int × Sg) => L_X11_pushParts_38 x1 x2 y0 a.1 a.2) 3000 (2, σ)).bind fun y9 =>
some y9
def B_X11_pushParts_32 (x1 : Int) (x2 : Int) (σ : Sg) : Option Sg :=
B_X11_pushParts_33 x1 x2 0 σ
def F_X11_pushParts (a1 : Int) (a2 : Int) (a3 : Int) (σ : Sg) : Option Sg :=
(rdn 60 σ 8 a1).bind fun v1 =>
if v1 = 6 then
(rdn 60 σ 10 a1).bind fun v11 =>
if v11 = 2 then
(rdn 60 σ 9 a1).bind fun v13 =>
B_X11_pushParts_33 a1 a2 (wrap (a3 - v13)) σ
else
B_X11_pushParts_32 a1 a2 σ
else
B_X11_pushParts_32 a1 a2 σ
def F_X11_took (σ : Sg) : (Int × Sg) :=
bnd (up2 σ 0 38 (wrap ((σ 0 38) - 1))) fun s1 =>
(0, s1)
def F_X11_isRight (a1 : Int) (a2 : Int) (σ : Sg) : Option Bool :=
(rdn 60 σ 8 a1).bind fun v1 =>
if v1 = 2 then
(rdn 60 σ 9 a1).bind fun v9 =>
(rdn 60 σ 10 a1).bind fun v11 =>
some (F_X11_in a2 v9 v11)
else
(rdn 60 σ 8 a1).bind fun v3 =>
if v3 = 3 then
(rdn 60 σ 9 a1).bind fun v7 =>
if a2 = (jrem v7 4) then
some true
else
some false
else
(F_X11_fitsLength a1 a2 σ).bind fun q5 =>
some q5
def B_X11_matches_275 (x4 : Bool) (σ : Sg) : Option (Int × Sg) :=
if x4 = true then
some (0, σ)
else
some (1, σ)
def B_X11_matches_241 (x1 : Int) (x2 : Int) (x3 : Int) (y0 : Bool) (y1 : Int) (σ : Sg) : Option (Int × Sg) :=
bnd (up2 σ 0 47 (wrap (y1 + (b2i y0)))) fun s51 =>
(F_X11_isRight x1 x3 s51).bind fun q53 =>
if q53 = true then
(rdn 60 s51 8 x1).bind fun v55 =>
if v55 = 2 then
B_X11_matches_275 q53 s51
else
(F_X11_pushParts x1 x2 x3 s51).bind fun q57 =>
B_X11_matches_275 q53 q57
else
B_X11_matches_275 q53 s51
def B_X11_matches_207 (x1 : Int) (x2 : Int) (σ : Sg) : Option (Int × Sg) :=
(F_X11_factAt x2 σ).bind fun q47 =>
bnd (F_X11_isAsked q47.1 x2 q47.2) fun q49 =>
if q49.1 = true then
some (2, q49.2)
else
if (q49.2 0 40) = 0 then
B_X11_matches_241 x1 x2 q47.1 false (q49.2 0 47) q49.2
else
B_X11_matches_241 x1 x2 q47.1 true (q49.2 0 47) q49.2
def F_X11_matches (a1 : Int) (a2 : Int) (σ : Sg) : Option (Int × Sg) :=
(rdn 60 σ 8 a1).bind fun v1 =>
if v1 = 0 then
some (0, σ)
else if v1 = 1 then
(rdn 60 σ 9 a1).bind fun v4 =>
(wrn 6 σ 33 v4 a2).bind fun s6 =>
(rdn 180 s6 11 (wrap (3 * a1))).bind fun v8 =>
(F_X11_push v8 a2 s6).bind fun q10 =>
some (0, q10)
else if v1 = 4 then
(wrn 64 σ 30 (σ 0 38) (σ 0 34)).bind fun s13 =>
(rdn 180 s13 11 (wrap ((wrap (3 * a1)) + 1))).bind fun v15 =>
(wrn 64 s13 31 (s13 0 38) v15).bind fun s17 =>
(wrn 64 s17 32 (s17 0 38) a2).bind fun s19 =>
bnd (up2 s19 0 38 (wrap ((s19 0 38) + 1))) fun s21 =>
(F_X11_push (-1) 0 s21).bind fun q23 =>
(rdn 180 q23 11 (wrap (3 * a1))).bind fun v25 =>
(F_X11_push v25 a2 q23).bind fun q27 =>
some (0, q27)
else if v1 = 5 then
(rdn 60 σ 9 a1).bind fun v30 =>
(F_X11_gave v30 a2 σ).bind fun q32 =>
if q32.1 = (-9) then
bnd (up2 q32.2 0 42 4) fun s38 =>
(rdn 60 s38 9 a1).bind fun v40 =>
bnd (up2 s38 0 43 v40) fun s42 =>
bnd (up2 s42 0 44 a2) fun s44 =>
some (2, s44)
else
(rdn 180 q32.2 11 (wrap (3 * a1))).bind fun v34 =>
(F_X11_push v34 (wrap ((-1) - q32.1)) q32.2).bind fun q36 =>
some (0, q36)
else B_X11_matches_207 a1 a2 σ
def L_X11_tryCase_12 (x2 : Int) (σ : Sg) : Option ((Int × Sg) ⊕ Sg) :=
if 6 ≤ x2 then
some (.inr σ)
else
(wrn 6 σ 33 x2 (-1)).bind fun s5 =>
some (.inl (wrap (x2 + 1), s5))
def L_X11_tryCase_38 (x1 : Int) (x2 : Int) (σ : Sg) : Option ((Int × Sg) ⊕ Sg) :=
if x2 < 0 then
some (.inr σ)
else
(rdn 24 σ 20 (wrap ((wrap (3 * x1)) + x2))).bind fun v11 =>
(F_X11_push v11 (wrap (x2 + 1)) σ).bind fun q13 =>
some (.inl (wrap (x2 + (-1)), q13))
def B_X11_tryCase_144 (σ : Sg) : Option (Sg ⊕ (Sg ⊕ (Int × Sg))) :=
some (.inl σ)
def B_X11_tryCase_124 (y0 : Int) (σ : Sg) : Option (Sg ⊕ (Sg ⊕ (Int × Sg))) :=
if y0 = 2 then
some (.inr (.inr (y0, σ)))
else
if y0 = 1 then
(F_X11_turns σ).bind fun q27 =>
if q27.1 = true then
B_X11_tryCase_144 q27.2
else
some (.inr (.inr (y0, q27.2)))
else
B_X11_tryCase_144 σ
def L_X11_tryCase_65 (σ : Sg) : Option (Sg ⊕ (Sg ⊕ (Int × Sg))) :=
if (σ 0 34) ≤ 0 then
some (.inr (.inl σ))
else
bnd (up2 σ 0 34 (wrap ((σ 0 34) - 1))) fun s17 =>
(rdn 256 s17 28 (s17 0 34)).bind fun v19 =>
if v19 = (-1) then
bnd (F_X11_took s17) fun q29 =>
B_X11_tryCase_124 q29.1 q29.2
else
(rdn 256 s17 28 (s17 0 34)).bind fun v21 =>
(rdn 256 s17 29 (s17 0 34)).bind fun v23 =>
(F_X11_matches v21 v23 s17).bind fun q25 =>
B_X11_tryCase_124 q25.1 q25.2
def F_X11_tryCase (a1 : Int) (σ : Sg) : Option (Int × Sg) :=
bnd (up2 σ 0 34 0) fun s1 =>
bnd (up2 s1 0 38 0) fun s3 =>
(iter (fun a : (Int × Sg) => L_X11_tryCase_12 a.1 a.2) 7 (0, s3)).bind fun y7 =>
bnd (wrap ((y7 0 21) - 1)) fun v9 =>
(iter (fun a : (Int × Sg) => L_X11_tryCase_38 a1 a.1 a.2) 3000 (v9, y7)).bind fun y15 =>
(iter (fun a : Sg => L_X11_tryCase_65 a) 3000 y15).bind fun y31 => Sum.elim (fun z33 =>
some (0, z33)) (fun r34 => some r34) y31
def B_X11_kindOf_80 (x4 : Int) (x5 : Int) (x6 : Int) (y0 : Int) (σ : Sg) : Option ((Int × Int × Int × Sg) ⊕ (Int × Sg)) :=
bnd (wrap ((wrap ((wrap (5 * x4)) + x6)) + 1)) fun v19 =>
some (.inl (y0, v19, wrap (x5 + (-1)), σ))
def L_X11_kindOf_33 (x3 : Int) (x4 : Int) (x5 : Int) (σ : Sg) : Option ((Int × Int × Int × Sg) ⊕ (Int × Sg)) :=
if x5 < 0 then
some (.inr (x3, σ))
else
(rdn 8 σ 34 x5).bind fun v13 =>
(F_X11_factAt x4 σ).bind fun q15 =>
if x3 = 5 then
B_X11_kindOf_80 x4 x5 v13 4 q15.2
else
(rdn 48 q15.2 3 (wrap ((wrap (3 * (wrap ((wrap (4 * x3)) + q15.1)))) + v13))).bind fun v17 =>
B_X11_kindOf_80 x4 x5 v13 v17 q15.2
def F_X11_kindOf (a1 : Int) (σ : Sg) : Option (Int × Sg) :=
(F_X11_wayTo a1 σ).bind fun q1 =>
(rdn 8 q1.2 34 q1.1).bind fun v3 =>
(rdn 3 q1.2 19 v3).bind fun v5 =>
(rdn 8 q1.2 34 q1.1).bind fun v7 =>
bnd (wrap (v7 + 1)) fun v9 =>
bnd (wrap (q1.1 - 1)) fun v11 =>
(iter (fun a : (Int × Int × Int × Sg) => L_X11_kindOf_33 a.1 a.2.1 a.2.2.1 a.2.2.2) 3000 (v5, v9, v11, q1.2)).bind fun y21 =>
some (y21.1, y21.2)
def F_X11_node (a1 : Int) (a2 : Int) (a3 : Int) (a4 : Int) (σ : Sg) : Option (Int × Sg) :=
(wrn 512 σ 40 (σ 0 56) a1).bind fun s1 =>
(wrn 512 s1 41 (s1 0 56) a2).bind fun s3 =>
(wrn 512 s3 42 (s3 0 56) a3).bind fun s5 =>
(wrn 512 s5 43 (s5 0 56) a4).bind fun s7 =>
(wrn 512 s7 44 (s7 0 56) (s7 0 56)).bind fun s9 =>
(wrn 512 s9 45 (s9 0 56) 0).bind fun s11 =>
bnd (up2 s11 0 56 (wrap ((s11 0 56) + 1))) fun s13 =>
some (wrap ((s13 0 56) - 1), s13)
def B_X11_need_31 (x4 : Int) (y0 : Int) (σ : Sg) : Option ((Int × Int) ⊕ Int) :=
some (.inl (y0, wrap (x4 + 1)))
def L_X11_need_5 (x1 : Int) (σ : Sg) (x3 : Int) (x4 : Int) : Option ((Int × Int) ⊕ Int) :=
if (σ 0 67) ≤ x4 then
some (.inr x3)
else
(rdn 512 σ 47 x4).bind fun v1 =>
if v1 = x1 then
B_X11_need_31 x4 x4 σ
else
B_X11_need_31 x4 x3 σ
def B_X11_need_101 (x2 : Int) (x3 : Int) (y0 : Bool) (y1 : Int) (y2 : Int) (σ : Sg) : Option Sg :=
(wrn 512 σ 48 y2 (wrap (y1 + (b2i y0)))).bind fun s9 =>
(wrn 512 s9 49 x3 x2).bind fun s11 =>
some s11
def B_X11_need_79 (x2 : Int) (x3 : Int) (σ : Sg) : Option Sg :=
(rdn 512 σ 48 x3).bind fun v5 =>
(rdn 512 σ 49 x3).bind fun v7 =>
if v7 = x2 then
B_X11_need_101 x2 x3 false v5 x3 σ
else
B_X11_need_101 x2 x3 true v5 x3 σ
def F_X11_need (a1 : Int) (a2 : Int) (σ : Sg) : Option Sg :=
(iter (fun a : (Int × Int) => L_X11_need_5 a1 σ a.1 a.2) 3000 ((-1), 0)).bind fun y3 =>
if y3 = (-1) then
bnd (σ 0 67) fun v13 =>
(wrn 512 σ 47 v13 a1).bind fun s15 =>
(wrn 512 s15 48 v13 0).bind fun s17 =>
(wrn 512 s17 49 v13 (-1)).bind fun s19 =>
bnd (up2 s19 0 67 (wrap ((s19 0 67) + 1))) fun s21 =>
B_X11_need_79 a2 v13 s21
else
B_X11_need_79 a2 y3 σ
def L_X11_needsOf_4 (x1 : Int) (x2 : Int) (x3 : Int) (σ : Sg) : Option ((Int × Int × Sg) ⊕ (Int × Sg)) :=
if (σ 0 21) ≤ x3 then
some (.inr (x2, σ))
else
(rdn 24 σ 20 (wrap ((wrap (3 * x1)) + x3))).bind fun v1 =>
(wrn 256 σ 26 x2 v1).bind fun s3 =>
(wrn 256 s3 50 x2 (wrap (x3 + 1))).bind fun s5 =>
some (.inl (wrap (x2 + 1), wrap (x3 + 1), s5))
def B_X11_needsOf_303 (x2 : Int) (x10 : Int) (σ : Sg) : Option ((Int × Int × Sg) ⊕ (Int × Sg)) :=
some (.inl (x2, wrap (x10 + 1), σ))
def B_X11_needsOf_299 (x2 : Int) (x10 : Int) (y0 : Int) (y1 : Int) (σ : Sg) : Option ((Int × Int × Sg) ⊕ (Int × Sg)) :=
(wrn 256 σ 50 y1 y0).bind fun s21 =>
B_X11_needsOf_303 (wrap (x2 + 1)) x10 s21
def B_X11_needsOf_282 (x2 : Int) (x4 : Int) (x10 : Int) (y0 : Int) (σ : Sg) : Option ((Int × Int × Sg) ⊕ (Int × Sg)) :=
B_X11_needsOf_299 x2 x10 x4 y0 σ
def L_X11_needsOf_222 (x3 : Int) (x4 : Int) (x5 : Int) (x8 : Bool) (x9 : Int) (x2 : Int) (x10 : Int) (σ : Sg) : Option ((Int × Int × Sg) ⊕ (Int × Sg)) :=
if 3 ≤ x10 then
some (.inr (x2, σ))
else
if x8 = true then
(rdn 180 σ 11 (wrap ((wrap (3 * x3)) + x10))).bind fun v15 =>
if v15 = (-1) then
B_X11_needsOf_303 x2 x10 σ
else
(rdn 180 σ 11 (wrap ((wrap (3 * x3)) + x10))).bind fun v17 =>
(wrn 256 σ 26 x2 v17).bind fun s19 =>
if x5 = 1 then
B_X11_needsOf_282 x2 x4 x10 x2 s19
else
if x5 = 4 then
B_X11_needsOf_282 x2 x4 x10 x2 s19
else
B_X11_needsOf_299 x2 x10 (wrap ((wrap ((wrap ((wrap (5 * x4)) + x9)) + x10)) + 1)) x2 s19
else
some (.inr (x2, σ))
def B_X11_needsOf_217 (x2 : Int) (x3 : Int) (x4 : Int) (x5 : Int) (x8 : Bool) (y0 : Int) (σ : Sg) : Option ((Int × Sg) ⊕ Sg) :=
(iter (fun a : (Int × Int × Sg) => L_X11_needsOf_222 x3 x4 x5 x8 y0 a.1 a.2.1 a.2.2) 4 (x2, 0, σ)).bind fun y23 =>
some (.inl (y23.1, y23.2))
def B_X11_needsOf_216 (x2 : Int) (x3 : Int) (x4 : Int) (x5 : Int) (x8 : Bool) (σ : Sg) : Option ((Int × Sg) ⊕ Sg) :=
B_X11_needsOf_217 x2 x3 x4 x5 x8 0 σ
def B_X11_needsOf_185 (x2 : Int) (x3 : Int) (x4 : Int) (x5 : Int) (x7 : Int) (y0 : Bool) (σ : Sg) : Option ((Int × Sg) ⊕ Sg) :=
if x5 = 6 then
(rdn 60 σ 10 x3).bind fun v25 =>
if v25 = 2 then
(rdn 60 σ 9 x3).bind fun v27 =>
B_X11_needsOf_217 x2 x3 x4 x5 y0 (wrap (x7 - v27)) σ
else
B_X11_needsOf_216 x2 x3 x4 x5 y0 σ
else
B_X11_needsOf_216 x2 x3 x4 x5 y0 σ
def B_X11_needsOf_180 (x2 : Int) (x3 : Int) (x4 : Int) (x5 : Int) (x7 : Int) (σ : Sg) : Option ((Int × Sg) ⊕ Sg) :=
B_X11_needsOf_185 x2 x3 x4 x5 x7 true σ
def B_X11_needsOf_184 (x2 : Int) (x3 : Int) (x4 : Int) (x5 : Int) (x7 : Int) (σ : Sg) : Option ((Int × Sg) ⊕ Sg) :=
B_X11_needsOf_185 x2 x3 x4 x5 x7 false σ
def B_X11_needsOf_163 (x2 : Int) (x3 : Int) (x4 : Int) (x5 : Int) (x7 : Int) (σ : Sg) : Option ((Int × Sg) ⊕ Sg) :=
if x7 = (-9) then
B_X11_needsOf_184 x2 x3 x4 x5 x7 σ
else
(F_X11_isRight x3 x7 σ).bind fun q29 =>
if q29 = true then
B_X11_needsOf_180 x2 x3 x4 x5 x7 σ
else
B_X11_needsOf_184 x2 x3 x4 x5 x7 σ
def B_X11_needsOf_138 (x2 : Int) (x3 : Int) (x4 : Int) (x5 : Int) (x7 : Int) (σ : Sg) : Option ((Int × Sg) ⊕ Sg) :=
if x5 = 1 then
B_X11_needsOf_180 x2 x3 x4 x5 x7 σ
else
if x5 = 4 then
B_X11_needsOf_180 x2 x3 x4 x5 x7 σ
else
if x5 = 3 then
B_X11_needsOf_163 x2 x3 x4 x5 x7 σ
else
if x5 = 6 then
B_X11_needsOf_163 x2 x3 x4 x5 x7 σ
else
B_X11_needsOf_184 x2 x3 x4 x5 x7 σ
def B_X11_needsOf_117 (x1 : Int) (x2 : Int) (x3 : Int) (x4 : Int) (x5 : Int) (x6 : Bool) (y0 : Int) (σ : Sg) : Option ((Int × Sg) ⊕ Sg) :=
if x6 = true then
if y0 = (-9) then
(F_X11_need x4 x1 σ).bind fun q31 =>
B_X11_needsOf_138 x2 x3 x4 x5 y0 q31
else
B_X11_needsOf_138 x2 x3 x4 x5 y0 σ
else
B_X11_needsOf_138 x2 x3 x4 x5 y0 σ
def B_X11_needsOf_100 (x1 : Int) (x2 : Int) (x3 : Int) (x4 : Int) (x5 : Int) (y0 : Bool) (σ : Sg) : Option ((Int × Sg) ⊕ Sg) :=
if y0 = true then
(F_X11_factAt x4 σ).bind fun q33 =>
B_X11_needsOf_117 x1 x2 x3 x4 x5 y0 q33.1 q33.2
else
B_X11_needsOf_117 x1 x2 x3 x4 x5 y0 0 σ
def B_X11_needsOf_95 (x1 : Int) (x2 : Int) (x3 : Int) (x4 : Int) (x5 : Int) (σ : Sg) : Option ((Int × Sg) ⊕ Sg) :=
B_X11_needsOf_100 x1 x2 x3 x4 x5 true σ
def L_X11_needsOf_46 (x1 : Int) (x2 : Int) (σ : Sg) : Option ((Int × Sg) ⊕ Sg) :=
if x2 ≤ 0 then
some (.inr σ)
else
(rdn 256 σ 26 (wrap (x2 + (-1)))).bind fun v9 =>
(rdn 256 σ 50 (wrap (x2 + (-1)))).bind fun v11 =>
(rdn 60 σ 8 v9).bind fun v13 =>
if v13 = 2 then
B_X11_needsOf_95 x1 (wrap (x2 + (-1))) v9 v11 v13 σ
else
if v13 = 3 then
B_X11_needsOf_95 x1 (wrap (x2 + (-1))) v9 v11 v13 σ
else
if v13 = 6 then
B_X11_needsOf_95 x1 (wrap (x2 + (-1))) v9 v11 v13 σ
else
B_X11_needsOf_100 x1 (wrap (x2 + (-1))) v9 v11 v13 false σ
def F_X11_needsOf (a1 : Int) (σ : Sg) : Option Sg :=
(iter (fun a : (Int × Int × Sg) => L_X11_needsOf_4 a1 a.1 a.2.1 a.2.2) 3000 (0, 0, σ)).bind fun y7 =>
(iter (fun a : (Int × Sg) => L_X11_needsOf_46 a1 a.1 a.2) 3000 (y7.1, y7.2)).bind fun y35 =>
some y35
def B_X11_mostNeeded_37 (x1 : Int) (σ : Sg) : Option ((Int × Sg) ⊕ Sg) :=
some (.inl (wrap (x1 + 1), σ))
def L_X11_mostNeeded_7 (x1 : Int) (σ : Sg) : Option ((Int × Sg) ⊕ Sg) :=
if (σ 0 23) ≤ x1 then
some (.inr σ)
else
(F_X11_hasFailed x1 σ).bind fun q3 =>
if q3 = true then
B_X11_mostNeeded_37 x1 σ
else
(F_X11_tryCase x1 σ).bind fun q5 =>
if q5.1 = 1 then
B_X11_mostNeeded_37 x1 q5.2
else
(F_X11_needsOf x1 q5.2).bind fun q7 =>
B_X11_mostNeeded_37 x1 q7
def B_X11_mostNeeded_115 (x2 : Int) (y0 : Int) (σ : Sg) : Option ((Int × Int) ⊕ Int) :=
some (.inl (y0, wrap (x2 + 1)))
def B_X11_mostNeeded_105 (x1 : Int) (x2 : Int) (y0 : Bool) (σ : Sg) : Option ((Int × Int) ⊕ Int) :=
if y0 = true then
B_X11_mostNeeded_115 x2 x2 σ
else
B_X11_mostNeeded_115 x2 x1 σ
def B_X11_mostNeeded_100 (x1 : Int) (x2 : Int) (σ : Sg) : Option ((Int × Int) ⊕ Int) :=
B_X11_mostNeeded_105 x1 x2 true σ
def B_X11_mostNeeded_104 (x1 : Int) (x2 : Int) (σ : Sg) : Option ((Int × Int) ⊕ Int) :=
B_X11_mostNeeded_105 x1 x2 false σ
def L_X11_mostNeeded_47 (σ : Sg) (x1 : Int) (x2 : Int) : Option ((Int × Int) ⊕ Int) :=
if (σ 0 67) ≤ x2 then
some (.inr x1)
else
(rdn 512 σ 48 x2).bind fun v11 =>
(rdn 512 σ 48 x1).bind fun v13 =>
if v13 < v11 then
B_X11_mostNeeded_100 x1 x2 σ
else
(rdn 512 σ 48 x2).bind fun v15 =>
(rdn 512 σ 48 x1).bind fun v17 =>
if v15 = v17 then
(rdn 512 σ 47 x2).bind fun v19 =>
(rdn 512 σ 47 x1).bind fun v21 =>
if v21 ≤ v19 then
B_X11_mostNeeded_104 x1 x2 σ
else
B_X11_mostNeeded_100 x1 x2 σ
else
B_X11_mostNeeded_104 x1 x2 σ
def F_X11_mostNeeded (σ : Sg) : Option (Int × Sg) :=
bnd (up2 σ 0 67 0) fun s1 =>
(iter (fun a : (Int × Sg) => L_X11_mostNeeded_7 a.1 a.2) 3000 (0, s1)).bind fun y9 =>
(iter (fun a : (Int × Int) => L_X11_mostNeeded_47 y9 a.1 a.2) 3000 (0, 0)).bind fun y23 =>
(rdn 512 y9 47 y23).bind fun v25 =>
some (v25, y9)
def B_X11_lay_69 (x4 : Int) (x5 : Bool) (y0 : Bool) (y1 : Int) (σ : Sg) : Option ((Int × Int × Bool × Sg) ⊕ (Int × Int × Bool × Sg)) :=
bnd (wrap (y1 + (b2i y0))) fun v7 =>
some (.inl (v7, x4, x5, σ))
def B_X11_lay_56 (x3 : Int) (x4 : Int) (y0 : Bool) (σ : Sg) : Option ((Int × Int × Bool × Sg) ⊕ (Int × Int × Bool × Sg)) :=
if y0 = true then
B_X11_lay_69 x4 y0 true x3 σ
else
B_X11_lay_69 x4 y0 false x3 σ
def B_X11_lay_43 (x3 : Int) (y0 : Int) (σ : Sg) : Option ((Int × Int × Bool × Sg) ⊕ (Int × Int × Bool × Sg)) :=
if y0 = 1 then
B_X11_lay_56 x3 y0 true σ
else
B_X11_lay_56 x3 y0 false σ
def L_X11_lay_13 (x3 : Int) (x4 : Int) (x5 : Bool) (σ : Sg) : Option ((Int × Int × Bool × Sg) ⊕ (Int × Int × Bool × Sg)) :=
if x5 = true then
if (σ 0 23) ≤ x3 then
some (.inr (x3, x4, x5, σ))
else
(F_X11_hasFailed x3 σ).bind fun q3 =>
if q3 = true then
B_X11_lay_43 x3 1 σ
else
(F_X11_tryCase x3 σ).bind fun q5 =>
B_X11_lay_43 x3 q5.1 q5.2
else
some (.inr (x3, x4, x5, σ))
def B_X11_lay_368 (x3 : Int) (x8 : Int) (y0 : Int) (y1 : Int) (σ : Sg) : Option ((Int × Sg) ⊕ Sg) :=
(F_X11_node y1 y0 x3 0 σ).bind fun q19 =>
some (.inl (wrap (x8 + 1), q19.2))
def B_X11_lay_344 (x1 : Int) (x3 : Int) (x8 : Int) (y0 : Bool) (σ : Sg) : Option ((Int × Sg) ⊕ Sg) :=
if y0 = true then
if x8 = 0 then
B_X11_lay_368 x3 x8 0 x1 σ
else
B_X11_lay_368 x3 x8 1 x1 σ
else
B_X11_lay_368 x3 x8 (-9) x1 σ
def B_X11_lay_343 (x1 : Int) (x3 : Int) (x8 : Int) (σ : Sg) : Option ((Int × Sg) ⊕ Sg) :=
B_X11_lay_344 x1 x3 x8 false σ
def B_X11_lay_339 (x1 : Int) (x3 : Int) (x8 : Int) (σ : Sg) : Option ((Int × Sg) ⊕ Sg) :=
B_X11_lay_344 x1 x3 x8 true σ
def L_X11_lay_311 (x1 : Int) (x3 : Int) (x6 : Int) (x7 : Int) (x8 : Int) (σ : Sg) : Option ((Int × Sg) ⊕ Sg) :=
if x6 ≤ x8 then
some (.inr σ)
else
if x7 = 3 then
if x8 = 0 then
B_X11_lay_339 x1 x3 x8 σ
else
(rdn 8 σ 22 x3).bind fun v21 =>
if v21 = 3 then
B_X11_lay_339 x1 x3 x8 σ
else
B_X11_lay_343 x1 x3 x8 σ
else
B_X11_lay_343 x1 x3 x8 σ
def B_X11_lay_267 (x1 : Int) (x3 : Int) (x6 : Int) (x7 : Int) (σ : Sg) : Option (Bool × Sg) :=
(wrn 512 σ 41 x1 x7).bind fun s13 =>
if (wrap ((s13 0 56) + x6)) ≤ 500 then
(wrn 512 s13 44 x1 (s13 0 56)).bind fun s15 =>
(wrn 512 s15 45 x1 x6).bind fun s17 =>
(iter (fun a : (Int × Sg) => L_X11_lay_311 x1 x3 x6 x7 a.1 a.2) 3000 (0, s17)).bind fun y23 =>
some (true, y23)
else
some (false, s13)
def B_X11_lay_265 (x1 : Int) (x3 : Int) (x7 : Int) (y0 : Int) (σ : Sg) : Option (Bool × Sg) :=
B_X11_lay_267 x1 x3 y0 x7 σ
def B_X11_lay_208 (x1 : Int) (x3 : Int) (x7 : Int) (y0 : Int) (y1 : Int) (σ : Sg) : Option (Bool × Sg) :=
(wrn 512 σ 43 y1 y0).bind fun s25 =>
(rdn 512 s25 43 x1).bind fun v27 =>
(F_X11_kindOf v27 s25).bind fun q29 =>
(wrn 512 q29.2 42 x1 q29.1).bind fun s31 =>
(rdn 512 s31 42 x1).bind fun v33 =>
if v33 = 4 then
B_X11_lay_265 x1 x3 x7 10 s31
else
(rdn 512 s31 42 x1).bind fun v35 =>
if v35 = 5 then
B_X11_lay_265 x1 x3 x7 4 s31
else
(rdn 512 s31 42 x1).bind fun v37 =>
(rdn 4 s31 1 v37).bind fun v39 =>
B_X11_lay_265 x1 x3 x7 v39 s31
def B_X11_lay_135 (x1 : Int) (x2 : Int) (x3 : Int) (x6 : Int) (y0 : Int) (σ : Sg) : Option (Bool × Sg) :=
if y0 = 4 then
(wrn 512 σ 42 x1 (σ 0 43)).bind fun s43 =>
(wrn 512 s43 43 x1 (s43 0 44)).bind fun s45 =>
(rdn 12 s45 18 (wrap ((wrap (4 * (s45 0 43))) + 3))).bind fun v47 =>
B_X11_lay_267 x1 x3 v47 y0 s45
else
if y0 = 5 then
if x2 = 3 then
(F_X11_mostNeeded σ).bind fun q41 =>
B_X11_lay_208 x1 x3 y0 q41.1 x1 q41.2
else
B_X11_lay_208 x1 x3 y0 (σ 0 44) x1 σ
else
B_X11_lay_267 x1 x3 x6 y0 σ
def B_X11_lay_119 (x1 : Int) (x2 : Int) (x3 : Int) (x4 : Int) (σ : Sg) : Option (Bool × Sg) :=
if x4 = 0 then
B_X11_lay_135 x1 x2 x3 2 3 σ
else
B_X11_lay_135 x1 x2 x3 2 (σ 0 42) σ
def F_X11_lay (a1 : Int) (a2 : Int) (σ : Sg) : Option (Bool × Sg) :=
bnd (up2 σ 0 41 a1) fun s1 =>
(iter (fun a : (Int × Int × Bool × Sg) => L_X11_lay_13 a.1 a.2.1 a.2.2.1 a.2.2.2) 3000 (0, 1, true, s1)).bind fun y9 =>
if y9.2.2.1 = true then
(wrn 512 y9.2.2.2 41 a1 2).bind fun s53 =>
some (true, s53)
else
(wrn 512 y9.2.2.2 42 a1 y9.1).bind fun s11 =>
if y9.2.1 = 0 then
(rdn 8 s11 22 y9.1).bind fun v49 =>
if v49 = (-1) then
(wrn 512 s11 41 a1 0).bind fun s51 =>
some (true, s51)
else
B_X11_lay_119 a1 a2 y9.1 y9.2.1 s11
else
B_X11_lay_119 a1 a2 y9.1 y9.2.1 s11
def B_X11_build_82 (x2 : Int) (y0 : Bool) (σ : Sg) : Option ((Int × Sg) ⊕ Sg) :=
bnd (up2 σ 0 55 (b2i y0)) fun s13 =>
some (.inl (wrap (x2 + 1), s13))
def B_X11_build_81 (x2 : Int) (σ : Sg) : Option ((Int × Sg) ⊕ Sg) :=
B_X11_build_82 x2 false σ
def L_X11_build_41 (x1 : Int) (x2 : Int) (σ : Sg) : Option ((Int × Sg) ⊕ Sg) :=
if (σ 0 56) ≤ x2 then
some (.inr σ)
else
if (σ 0 55) = 0 then
(rdn 512 σ 41 x2).bind fun v11 =>
if v11 = (-9) then
(F_X11_lay x2 x1 σ).bind fun q15 =>
if q15.1 = true then
B_X11_build_81 x2 q15.2
else
B_X11_build_82 x2 true q15.2
else
B_X11_build_81 x2 σ
else
some (.inr σ)
def F_X11_build (a1 : Int) (σ : Sg) : Option Sg :=
if (σ 0 54) = a1 then
some σ
else
bnd (up2 σ 0 54 a1) fun s1 =>
bnd (up2 s1 0 40 0) fun s3 =>
bnd (up2 s3 0 55 0) fun s5 =>
bnd (up2 s5 0 56 0) fun s7 =>
(F_X11_node (-1) (-9) 0 0 s7).bind fun q9 =>
(iter (fun a : (Int × Sg) => L_X11_build_41 a1 a.1 a.2) 3000 (0, q9.2)).bind fun y17 =>
some y17
def B_X11_guarded_97 (x4 : Int) (y0 : Bool) (σ : Sg) : Option (Int × Sg) :=
if y0 = true then
some (0, σ)
else
if x4 = 3 then
some (2, σ)
else
some (1, σ)
def F_X11_guarded (a1 : Int) (σ : Sg) : Option (Int × Sg) :=
(rdn 8 σ 23 a1).bind fun v1 =>
(rdn 6 σ 33 v1).bind fun v3 =>
(F_X11_headAt v3 σ).bind fun q5 =>
(rdn 8 q5.2 24 a1).bind fun v7 =>
(rdn 8 q5.2 22 a1).bind fun v9 =>
if v9 = 0 then
if v7 ≤ q5.1 then
B_X11_guarded_97 v9 false q5.2
else
B_X11_guarded_97 v9 true q5.2
else
if v9 = 1 then
if q5.1 = v7 then
B_X11_guarded_97 v9 true q5.2
else
B_X11_guarded_97 v9 false q5.2
else
if v9 = 2 then
if q5.1 ≤ v7 then
B_X11_guarded_97 v9 false q5.2
else
B_X11_guarded_97 v9 true q5.2
else
if q5.1 = v7 then
B_X11_guarded_97 v9 false q5.2
else
B_X11_guarded_97 v9 true q5.2
def B_X11_end_33 (x3 : Int) (y0 : Int) (y1 : Int) (σ : Sg) : Option ((Int × Sg) ⊕ Sg) :=
(wrn 6 σ 39 y1 y0).bind fun s5 =>
some (.inl (wrap (x3 + 1), s5))
def L_X11_end_7 (x1 : Int) (x3 : Int) (σ : Sg) : Option ((Int × Sg) ⊕ Sg) :=
if 6 ≤ x3 then
some (.inr σ)
else
if x1 = (-1) then
B_X11_end_33 x3 (-1) x3 σ
else
(rdn 6 σ 33 x3).bind fun v3 =>
B_X11_end_33 x3 v3 x3 σ
def B_X11_end_70 (x1 : Int) (x2 : Bool) (y0 : Bool) (y1 : Int) (y2 : Int) (σ : Sg) : Option (Int × Sg) :=
(wrn 8 σ 25 y2 (wrap (y1 + (b2i y0)))).bind fun s11 =>
if x1 = (-1) then
some ((-1), s11)
else
if x2 = true then
some ((-2), s11)
else
(rdn 8 s11 21 x1).bind fun v13 =>
some (v13, s11)
def B_X11_end_65 (x1 : Int) (x2 : Bool) (y0 : Int) (y1 : Int) (σ : Sg) : Option (Int × Sg) :=
B_X11_end_70 x1 x2 false y0 y1 σ
def B_X11_end_54 (x1 : Int) (x2 : Bool) (y0 : Int) (σ : Sg) : Option (Int × Sg) :=
(rdn 8 σ 25 y0).bind fun v9 =>
if x1 = (-1) then
B_X11_end_65 x1 x2 v9 y0 σ
else
if x2 = true then
B_X11_end_65 x1 x2 v9 y0 σ
else
B_X11_end_70 x1 x2 true v9 y0 σ
def F_X11_end (a1 : Int) (a2 : Bool) (σ : Sg) : Option (Int × Sg) :=
bnd (up2 σ 0 52 a1) fun s1 =>
(iter (fun a : (Int × Sg) => L_X11_end_7 a1 a.1 a.2) 7 (0, s1)).bind fun y7 =>
if a1 = (-1) then
B_X11_end_54 a1 a2 0 y7
else
B_X11_end_54 a1 a2 a1 y7
def B_X11_runPlain_64 (x1 : Int) (σ : Sg) : Option ((Int × Sg) ⊕ (Sg ⊕ (Int × Sg))) :=
some (.inl (wrap (x1 + 1), σ))
def B_X11_runPlain_60 (y0 : Bool) (y1 : Int) (σ : Sg) : Option ((Int × Sg) ⊕ (Sg ⊕ (Int × Sg))) :=
(F_X11_end y1 y0 σ).bind fun q9 =>
some (.inr (.inr (q9.1, q9.2)))
def B_X11_runPlain_42 (x1 : Int) (y0 : Int) (σ : Sg) : Option ((Int × Sg) ⊕ (Sg ⊕ (Int × Sg))) :=
if y0 = 1 then
B_X11_runPlain_64 x1 σ
else
if y0 = 2 then
B_X11_runPlain_60 true x1 σ
else
B_X11_runPlain_60 false x1 σ
def L_X11_runPlain_7 (x1 : Int) (σ : Sg) : Option ((Int × Sg) ⊕ (Sg ⊕ (Int × Sg))) :=
if (σ 0 23) ≤ x1 then
some (.inr (.inl σ))
else
(F_X11_tryCase x1 σ).bind fun q3 =>
if q3.1 = 0 then
(rdn 8 q3.2 22 x1).bind fun v5 =>
if v5 = (-1) then
B_X11_runPlain_42 x1 0 q3.2
else
(F_X11_guarded x1 q3.2).bind fun q7 =>
B_X11_runPlain_42 x1 q7.1 q7.2
else
B_X11_runPlain_64 x1 q3.2
def F_X11_runPlain (σ : Sg) : Option (Int × Sg) :=
bnd (up2 σ 0 40 1) fun s1 =>
(iter (fun a : (Int × Sg) => L_X11_runPlain_7 a.1 a.2) 3000 (0, s1)).bind fun y11 => Sum.elim (fun z13 =>
(F_X11_end (-1) false z13).bind fun q15 =>
some (q15.1, q15.2)) (fun r14 => some r14) y11
def F_X11_bindBy (a1 : Int) (a2 : Int) (σ : Sg) : Option Sg :=
bnd (up2 σ 0 40 0) fun s1 =>
bnd (up2 s1 0 41 a2) fun s3 =>
(F_X11_tryCase a1 s3).bind fun q5 =>
some q5.2
def B_X11_runTree_112 (x1 : Int) (x2 : Int) (σ : Sg) : Option ((Int × Sg) ⊕ (Int × Sg)) :=
(rdn 512 σ 44 x1).bind fun v15 =>
bnd (wrap (v15 + x2)) fun v17 =>
some (.inl (v17, σ))
def B_X11_runTree_101 (x1 : Int) (y0 : Int) (σ : Sg) : Option ((Int × Sg) ⊕ (Int × Sg)) :=
bnd (up2 σ 0 47 (wrap ((σ 0 47) + 1))) fun s13 =>
B_X11_runTree_112 x1 y0 s13
def B_X11_runTree_53 (x1 : Int) (y0 : Bool) (σ : Sg) : Option ((Int × Sg) ⊕ (Int × Sg)) :=
B_X11_runTree_112 x1 (b2i y0) σ
def L_X11_runTree_2 (x1 : Int) (σ : Sg) : Option ((Int × Sg) ⊕ (Int × Sg)) :=
(rdn 512 σ 41 x1).bind fun v1 =>
if v1 ≤ 2 then
some (.inr (x1, σ))
else
(rdn 512 σ 41 x1).bind fun v3 =>
if v3 = 3 then
(rdn 512 σ 42 x1).bind fun v25 =>
(F_X11_bindBy v25 x1 σ).bind fun q27 =>
(rdn 512 q27 42 x1).bind fun v29 =>
(F_X11_guarded v29 q27).bind fun q31 =>
if q31.1 = 0 then
B_X11_runTree_53 x1 false q31.2
else
B_X11_runTree_53 x1 true q31.2
else
bnd (up2 σ 0 40 1) fun s5 =>
(rdn 512 s5 41 x1).bind fun v7 =>
if v7 = 4 then
(rdn 512 s5 42 x1).bind fun v19 =>
(rdn 512 s5 43 x1).bind fun v21 =>
(F_X11_gave v19 v21 s5).bind fun q23 =>
B_X11_runTree_101 x1 q23.1 q23.2
else
(rdn 512 s5 43 x1).bind fun v9 =>
(F_X11_headAt v9 s5).bind fun q11 =>
B_X11_runTree_101 x1 q11.1 q11.2
def B_X11_runTree_174 (y0 : Bool) (y1 : Int) (σ : Sg) : Option (Int × Sg) :=
(F_X11_end y1 y0 σ).bind fun q45 =>
some (q45.1, q45.2)
def F_X11_runTree (σ : Sg) : Option (Int × Sg) :=
(iter (fun a : (Int × Sg) => L_X11_runTree_2 a.1 a.2) 3000 (0, σ)).bind fun y33 =>
(rdn 512 y33.2 41 y33.1).bind fun v35 =>
if v35 = 2 then
(F_X11_end (-1) false y33.2).bind fun q47 =>
some (q47.1, q47.2)
else
(rdn 512 y33.2 42 y33.1).bind fun v37 =>
(F_X11_bindBy v37 y33.1 y33.2).bind fun q39 =>
(rdn 512 q39 42 y33.1).bind fun v41 =>
(rdn 512 q39 41 y33.1).bind fun v43 =>
if v43 = 1 then
B_X11_runTree_174 true v41 q39
else
B_X11_runTree_174 false v41 q39
def B_X11_run_121 (x5 : Bool) (x7 : Int) (y0 : Bool) (σ : Sg) : Option ((Bool × Bool × Int) ⊕ (Bool × Bool)) :=
some (.inl (x5, y0, wrap (x7 + 1)))
def B_X11_run_120 (x5 : Bool) (x7 : Int) (σ : Sg) : Option ((Bool × Bool × Int) ⊕ (Bool × Bool)) :=
B_X11_run_121 x5 x7 false σ
def B_X11_run_116 (x5 : Bool) (x7 : Int) (σ : Sg) : Option ((Bool × Bool × Int) ⊕ (Bool × Bool)) :=
B_X11_run_121 x5 x7 true σ
def B_X11_run_69 (x6 : Bool) (x7 : Int) (x8 : Int) (x9 : Bool) (y0 : Bool) (σ : Sg) : Option ((Bool × Bool × Int) ⊕ (Bool × Bool)) :=
if x6 = true then
if (σ 0 21) ≤ x7 then
if x8 = (-1) then
B_X11_run_116 y0 x7 σ
else
B_X11_run_120 y0 x7 σ
else
if x9 = true then
(rdn 40 σ 4 x8).bind fun v7 =>
(rdn 3 σ 19 x7).bind fun v9 =>
if v7 = v9 then
B_X11_run_116 y0 x7 σ
else
B_X11_run_120 y0 x7 σ
else
B_X11_run_120 y0 x7 σ
else
B_X11_run_120 y0 x7 σ
def B_X11_run_68 (x6 : Bool) (x7 : Int) (x8 : Int) (x9 : Bool) (σ : Sg) : Option ((Bool × Bool × Int) ⊕ (Bool × Bool)) :=
B_X11_run_69 x6 x7 x8 x9 false σ
def B_X11_run_64 (x6 : Bool) (x7 : Int) (x8 : Int) (x9 : Bool) (σ : Sg) : Option ((Bool × Bool × Int) ⊕ (Bool × Bool)) :=
B_X11_run_69 x6 x7 x8 x9 true σ
def L_X11_run_14 (x2 : Int) (x3 : Int) (x4 : Int) (σ : Sg) (x5 : Bool) (x6 : Bool) (x7 : Int) : Option ((Bool × Bool × Int) ⊕ (Bool × Bool)) :=
if 3 ≤ x7 then
some (.inr (x5, x6))
else
bnd (F_X11_pick x2 x3 x4 x7) fun v3 =>
bnd (F_X11_in v3 0 (wrap ((σ 0 4) - 1))) fun v5 =>
if x5 = true then
if (σ 0 21) ≤ x7 then
B_X11_run_64 x6 x7 v3 v5 σ
else
if v5 = true then
B_X11_run_64 x6 x7 v3 v5 σ
else
B_X11_run_68 x6 x7 v3 v5 σ
else
B_X11_run_68 x6 x7 v3 v5 σ
def L_X11_run_232 (x2 : Int) (x3 : Int) (x4 : Int) (x8 : Int) (σ : Sg) : Option ((Int × Sg) ⊕ Sg) :=
if (σ 0 21) ≤ x8 then
some (.inr σ)
else
(wrn 3 σ 35 x8 (F_X11_pick x2 x3 x4 x8)).bind fun s15 =>
some (.inl (wrap (x8 + 1), s15))
def B_X11_run_221 (x1 : Int) (x2 : Int) (x3 : Int) (x4 : Int) (y0 : Int) (σ : Sg) : Option (Int × Sg) :=
bnd (F_X11_refused y0 σ) fun q13 =>
if q13.1 = true then
some (0, q13.2)
else
(iter (fun a : (Int × Sg) => L_X11_run_232 x2 x3 x4 a.1 a.2) 3000 (0, q13.2)).bind fun y17 =>
bnd (up2 y17 0 47 0) fun s19 =>
bnd (up2 s19 0 48 0) fun s21 =>
if x1 < 2 then
(F_X11_runPlain s21).bind fun q23 =>
some (q23.1, q23.2)
else
(F_X11_runTree s21).bind fun q25 =>
some (q25.1, q25.2)
def B_X11_run_190 (x1 : Int) (x2 : Int) (x3 : Int) (x4 : Int) (x5 : Bool) (x6 : Bool) (y0 : Bool) (σ : Sg) : Option (Int × Sg) :=
if x5 = true then
if x6 = true then
if y0 = true then
B_X11_run_221 x1 x2 x3 x4 0 σ
else
B_X11_run_221 x1 x2 x3 x4 3 σ
else
B_X11_run_221 x1 x2 x3 x4 2 σ
else
B_X11_run_221 x1 x2 x3 x4 1 σ
def B_X11_run_189 (x1 : Int) (x2 : Int) (x3 : Int) (x4 : Int) (x5 : Bool) (x6 : Bool) (σ : Sg) : Option (Int × Sg) :=
B_X11_run_190 x1 x2 x3 x4 x5 x6 false σ
def B_X11_run_185 (x1 : Int) (x2 : Int) (x3 : Int) (x4 : Int) (x5 : Bool) (x6 : Bool) (σ : Sg) : Option (Int × Sg) :=
B_X11_run_190 x1 x2 x3 x4 x5 x6 true σ
def B_X11_run_156 (x1 : Int) (x2 : Int) (x3 : Int) (x4 : Int) (x5 : Bool) (x6 : Bool) (σ : Sg) : Option (Int × Sg) :=
if (σ 0 21) ≤ 0 then
B_X11_run_189 x1 x2 x3 x4 x5 x6 σ
else
if x5 = true then
if x6 = true then
if x1 < 2 then
B_X11_run_185 x1 x2 x3 x4 x5 x6 σ
else
if (σ 0 55) = 0 then
B_X11_run_185 x1 x2 x3 x4 x5 x6 σ
else
B_X11_run_189 x1 x2 x3 x4 x5 x6 σ
else
B_X11_run_185 x1 x2 x3 x4 x5 x6 σ
else
B_X11_run_185 x1 x2 x3 x4 x5 x6 σ
def F_X11_run (a1 : Int) (a2 : Int) (a3 : Int) (a4 : Int) (σ : Sg) : Option (Int × Sg) :=
bnd (F_X11_in a1 0 3) fun v1 =>
(iter (fun a : (Bool × Bool × Int) => L_X11_run_14 a2 a3 a4 σ a.1 a.2.1 a.2.2) 4 (v1, true, 0)).bind fun y11 =>
if y11.1 = true then
if y11.2 = true then
if (σ 0 21) ≤ 0 then
B_X11_run_156 a1 a2 a3 a4 y11.1 y11.2 σ
else
if a1 < 2 then
B_X11_run_156 a1 a2 a3 a4 y11.1 y11.2 σ
else
(F_X11_build a1 σ).bind fun q27 =>
B_X11_run_156 a1 a2 a3 a4 y11.1 y11.2 q27
else
B_X11_run_156 a1 a2 a3 a4 y11.1 y11.2 σ
else
B_X11_run_156 a1 a2 a3 a4 y11.1 y11.2 σ
def F_X11_tests (σ : Sg) : (Int × Sg) :=
bnd (up2 σ 0 0 0) fun s1 =>
(s1 0 47, s1)
def F_X11_views (σ : Sg) : (Int × Sg) :=
bnd (up2 σ 0 0 0) fun s1 =>
(s1 0 48, s1)
def B_X11_viewAt_20 (x1 : Int) (y0 : Bool) (σ : Sg) : Option (Int × Sg) :=
bnd (F_X11_refused (b2i y0) σ) fun q1 =>
if q1.1 = true then
some (0, q1.2)
else
(rdn 1500 q1.2 36 x1).bind fun v3 =>
(rdn 1500 q1.2 37 x1).bind fun v5 =>
(rdn 1500 q1.2 38 x1).bind fun v7 =>
some (wrap ((wrap ((wrap (100000 * v3)) + (wrap (10 * v5)))) + v7), q1.2)
def F_X11_viewAt (a1 : Int) (σ : Sg) : Option (Int × Sg) :=
if (F_X11_in a1 0 (wrap ((σ 0 48) - 1))) = true then
B_X11_viewAt_20 a1 false σ
else
B_X11_viewAt_20 a1 true σ
def B_X11_bound_15 (x1 : Int) (y0 : Bool) (σ : Sg) : Option (Int × Sg) :=
bnd (F_X11_refused (b2i y0) σ) fun q1 =>
if q1.1 = true then
some (0, q1.2)
else
if (q1.2 0 52) = (-1) then
some ((-1), q1.2)
else
(rdn 6 q1.2 39 x1).bind fun v3 =>
some (v3, q1.2)
def F_X11_bound (a1 : Int) (σ : Sg) : Option (Int × Sg) :=
if (F_X11_in a1 0 5) = true then
B_X11_bound_15 a1 false σ
else
B_X11_bound_15 a1 true σ
def B_X11_taken_14 (x1 : Int) (y0 : Bool) (σ : Sg) : Option (Int × Sg) :=
bnd (F_X11_refused (b2i y0) σ) fun q1 =>
if q1.1 = true then
some (0, q1.2)
else
(rdn 8 q1.2 25 x1).bind fun v3 =>
some (v3, q1.2)
def F_X11_taken (a1 : Int) (σ : Sg) : Option (Int × Sg) :=
if (F_X11_isCase a1 σ) = true then
B_X11_taken_14 a1 false σ
else
B_X11_taken_14 a1 true σ
def B_X11_isSame_150 (x4 : Int) (y0 : Bool) (σ : Sg) : Option ((Bool × Int) ⊕ Bool) :=
some (.inl (y0, wrap (x4 + 1)))
def L_X11_isSame_99 (x1 : Int) (x2 : Int) (σ : Sg) (x3 : Bool) (x4 : Int) : Option ((Bool × Int) ⊕ Bool) :=
(rdn 512 σ 45 x1).bind fun v5 =>
if v5 ≤ x4 then
some (.inr x3)
else
if x3 = true then
(rdn 512 σ 44 x1).bind fun v7 =>
(rdn 512 σ 46 (wrap (v7 + x4))).bind fun v9 =>
(rdn 512 σ 44 x2).bind fun v11 =>
(rdn 512 σ 46 (wrap (v11 + x4))).bind fun v13 =>
if v9 = v13 then
B_X11_isSame_150 x4 true σ
else
B_X11_isSame_150 x4 false σ
else
some (.inr x3)
def B_X11_isSame_95 (x1 : Int) (x2 : Int) (y0 : Bool) (σ : Sg) : Option Bool :=
(iter (fun a : (Bool × Int) => L_X11_isSame_99 x1 x2 σ a.1 a.2) 3000 (y0, 0)).bind fun y15 =>
some y15
def B_X11_isSame_94 (x1 : Int) (x2 : Int) (σ : Sg) : Option Bool :=
B_X11_isSame_95 x1 x2 false σ
def B_X11_isSame_90 (x1 : Int) (x2 : Int) (σ : Sg) : Option Bool :=
B_X11_isSame_95 x1 x2 true σ
def B_X11_isSame_65 (x1 : Int) (x2 : Int) (σ : Sg) : Option Bool :=
(rdn 512 σ 41 x1).bind fun v19 =>
if v19 < 4 then
B_X11_isSame_90 x1 x2 σ
else
(rdn 512 σ 43 x1).bind fun v21 =>
(rdn 512 σ 43 x2).bind fun v23 =>
if v21 = v23 then
B_X11_isSame_90 x1 x2 σ
else
B_X11_isSame_94 x1 x2 σ
def B_X11_isSame_35 (x1 : Int) (x2 : Int) (y0 : Bool) (σ : Sg) : Option Bool :=
if y0 = true then
(rdn 512 σ 41 x1).bind fun v17 =>
if v17 = 2 then
B_X11_isSame_65 x1 x2 σ
else
(rdn 512 σ 42 x1).bind fun v25 =>
(rdn 512 σ 42 x2).bind fun v27 =>
if v25 = v27 then
B_X11_isSame_65 x1 x2 σ
else
B_X11_isSame_94 x1 x2 σ
else
B_X11_isSame_94 x1 x2 σ
def B_X11_isSame_34 (x1 : Int) (x2 : Int) (σ : Sg) : Option Bool :=
B_X11_isSame_35 x1 x2 false σ
def F_X11_isSame (a1 : Int) (a2 : Int) (σ : Sg) : Option Bool :=
(rdn 512 σ 41 a1).bind fun v1 =>
(rdn 512 σ 41 a2).bind fun v3 =>
if v1 = v3 then
(rdn 512 σ 45 a1).bind fun v29 =>
(rdn 512 σ 45 a2).bind fun v31 =>
if v29 = v31 then
B_X11_isSame_35 a1 a2 true σ
else
B_X11_isSame_34 a1 a2 σ
else
B_X11_isSame_34 a1 a2 σ
def B_X11_isOwn_73 (x3 : Int) (y0 : Bool) (σ : Sg) : Option ((Bool × Int) ⊕ Bool) :=
some (.inl (y0, wrap (x3 + 1)))
def L_X11_isOwn_27 (x1 : Int) (σ : Sg) (x2 : Bool) (x3 : Int) : Option ((Bool × Int) ⊕ Bool) :=
(rdn 512 σ 45 x1).bind fun v3 =>
if v3 ≤ x3 then
some (.inr x2)
else
if x2 = true then
(rdn 512 σ 44 x1).bind fun v5 =>
(rdn 512 σ 46 (wrap (v5 + x3))).bind fun v7 =>
(rdn 512 σ 44 x1).bind fun v9 =>
(rdn 512 σ 46 v9).bind fun v11 =>
if v7 = v11 then
B_X11_isOwn_73 x3 true σ
else
B_X11_isOwn_73 x3 false σ
else
some (.inr x2)
def B_X11_isOwn_24 (x1 : Int) (y0 : Bool) (σ : Sg) : Option Bool :=
(iter (fun a : (Bool × Int) => L_X11_isOwn_27 x1 σ a.1 a.2) 3000 (y0, 1)).bind fun y13 =>
if y13 = true then
some false
else
some true
def B_X11_isOwn_23 (x1 : Int) (σ : Sg) : Option Bool :=
B_X11_isOwn_24 x1 false σ
def F_X11_isOwn (a1 : Int) (σ : Sg) : Option Bool :=
(rdn 512 σ 41 a1).bind fun v1 =>
if v1 = 5 then
(rdn 512 σ 45 a1).bind fun v15 =>
if v15 ≤ 0 then
B_X11_isOwn_23 a1 σ
else
B_X11_isOwn_24 a1 true σ
else
B_X11_isOwn_23 a1 σ
def B_X11_sharedSize_89 (x4 : Int) (y0 : Bool) (σ : Sg) : Option ((Bool × Int) ⊕ Bool) :=
some (.inl (y0, wrap (x4 + 1)))
def L_X11_sharedSize_41 (x2 : Int) (σ : Sg) (x3 : Bool) (x4 : Int) : Option ((Bool × Int) ⊕ Bool) :=
(rdn 512 σ 45 x2).bind fun v5 =>
if v5 ≤ x4 then
some (.inr x3)
else
if x3 = true then
(rdn 512 σ 44 x2).bind fun v7 =>
(rdn 512 σ 46 (wrap (v7 + x4))).bind fun v9 =>
(rdn 512 σ 44 x2).bind fun v11 =>
(rdn 512 σ 46 v11).bind fun v13 =>
if v9 = v13 then
B_X11_sharedSize_89 x4 true σ
else
B_X11_sharedSize_89 x4 false σ
else
some (.inr x3)
def B_X11_sharedSize_190 (x4 : Int) (y0 : Int) (y1 : Int) (σ : Sg) : Option ((Int × Sg) ⊕ Sg) :=
(wrn 512 σ 46 y1 y0).bind fun s25 =>
some (.inl (wrap (x4 + (-1)), s25))
def B_X11_sharedSize_189 (x4 : Int) (y0 : Int) (σ : Sg) : Option ((Int × Sg) ⊕ Sg) :=
B_X11_sharedSize_190 x4 (-1) y0 σ
def L_X11_sharedSize_129 (x2 : Int) (x4 : Int) (σ : Sg) : Option ((Int × Sg) ⊕ Sg) :=
if x4 ≤ x2 then
some (.inr σ)
else
(rdn 512 σ 46 x2).bind fun v21 =>
if v21 = (-1) then
(rdn 512 σ 46 x4).bind fun v23 =>
if v23 < 0 then
B_X11_sharedSize_189 x4 x2 σ
else
(F_X11_isOwn x4 σ).bind fun q27 =>
if q27 = true then
(F_X11_isSame x4 x2 σ).bind fun q29 =>
if q29 = true then
(rdn 512 σ 46 x4).bind fun v31 =>
B_X11_sharedSize_190 x4 v31 x2 σ
else
B_X11_sharedSize_189 x4 x2 σ
else
B_X11_sharedSize_189 x4 x2 σ
else
some (.inr σ)
def B_X11_sharedSize_217 (x1 : Int) (x2 : Int) (σ : Sg) : Option ((Int × Int × Sg) ⊕ (Int × Sg)) :=
some (.inl (x1, wrap (x2 + (-1)), σ))
def B_X11_sharedSize_120 (x1 : Int) (x2 : Int) (y0 : Int) (y1 : Int) (σ : Sg) : Option ((Int × Int × Sg) ⊕ (Int × Sg)) :=
(wrn 512 σ 46 y1 y0).bind fun s17 =>
bnd (wrap ((s17 0 56) - 1)) fun v19 =>
(iter (fun a : (Int × Sg) => L_X11_sharedSize_129 x2 a.1 a.2) 3000 (v19, s17)).bind fun y33 =>
(rdn 512 y33 46 x2).bind fun v35 =>
if v35 = (-1) then
(wrn 512 y33 46 x2 x1).bind fun s37 =>
B_X11_sharedSize_217 (wrap (x1 + 1)) x2 s37
else
B_X11_sharedSize_217 x1 x2 y33
def B_X11_sharedSize_37 (x1 : Int) (x2 : Int) (y0 : Bool) (σ : Sg) : Option ((Int × Int × Sg) ⊕ (Int × Sg)) :=
(iter (fun a : (Bool × Int) => L_X11_sharedSize_41 x2 σ a.1 a.2) 3000 (y0, 1)).bind fun y15 =>
if y15 = true then
(rdn 512 σ 44 x2).bind fun v39 =>
(rdn 512 σ 46 v39).bind fun v41 =>
B_X11_sharedSize_120 x1 x2 v41 x2 σ
else
B_X11_sharedSize_120 x1 x2 (-1) x2 σ
def B_X11_sharedSize_36 (x1 : Int) (x2 : Int) (σ : Sg) : Option ((Int × Int × Sg) ⊕ (Int × Sg)) :=
B_X11_sharedSize_37 x1 x2 false σ
def L_X11_sharedSize_9 (x1 : Int) (x2 : Int) (σ : Sg) : Option ((Int × Int × Sg) ⊕ (Int × Sg)) :=
if x2 < 0 then
some (.inr (x1, σ))
else
(rdn 512 σ 41 x2).bind fun v3 =>
if v3 = 5 then
(rdn 512 σ 45 x2).bind fun v43 =>
if v43 ≤ 0 then
B_X11_sharedSize_36 x1 x2 σ
else
B_X11_sharedSize_37 x1 x2 true σ
else
B_X11_sharedSize_36 x1 x2 σ
def F_X11_sharedSize (σ : Sg) : Option (Int × Sg) :=
bnd (wrap ((σ 0 56) - 1)) fun v1 =>
(iter (fun a : (Int × Int × Sg) => L_X11_sharedSize_9 a.1 a.2.1 a.2.2) 3000 (0, v1, σ)).bind fun y45 =>
some (y45.1, y45.2)
def B_X11_size_26 (x1 : Int) (x2 : Bool) (y0 : Int) (σ : Sg) : Option (Int × Sg) :=
bnd (F_X11_refused y0 σ) fun q1 =>
if q1.1 = true then
some (0, q1.2)
else
(F_X11_build x1 q1.2).bind fun q3 =>
if (q3 0 55) = 0 then
if x2 = true then
(F_X11_sharedSize q3).bind fun q5 =>
some (q5.1, q5.2)
else
some (q3 0 56, q3)
else
some ((-3), q3)
def F_X11_size (a1 : Int) (a2 : Bool) (σ : Sg) : Option (Int × Sg) :=
if (F_X11_in a1 2 3) = true then
if (σ 0 21) = 0 then
B_X11_size_26 a1 a2 2 σ
else
B_X11_size_26 a1 a2 0 σ
else
B_X11_size_26 a1 a2 1 σ
def B_X11_missing_54 (x2 : Int) (y0 : Bool) (y1 : Int) (σ : Sg) : Option ((Int × Int) ⊕ Int) :=
bnd (wrap (y1 + (b2i y0))) fun v7 =>
some (.inl (v7, wrap (x2 + 1)))
def L_X11_missing_30 (σ : Sg) (x1 : Int) (x2 : Int) : Option ((Int × Int) ⊕ Int) :=
if (σ 0 56) ≤ x2 then
some (.inr x1)
else
(rdn 512 σ 41 x2).bind fun v5 =>
if v5 = 2 then
B_X11_missing_54 x2 true x1 σ
else
B_X11_missing_54 x2 false x1 σ
def B_X11_missing_13 (y0 : Bool) (σ : Sg) : Option (Int × Sg) :=
bnd (F_X11_refused (b2i y0) σ) fun q1 =>
if q1.1 = true then
some (0, q1.2)
else
(F_X11_build 2 q1.2).bind fun q3 =>
(iter (fun a : (Int × Int) => L_X11_missing_30 q3 a.1 a.2) 3000 (0, 0)).bind fun y9 =>
if (q3 0 55) = 0 then
some (y9, q3)
else
some ((-3), q3)
def F_X11_missing (σ : Sg) : Option (Int × Sg) :=
if (σ 0 21) = 0 then
B_X11_missing_13 true σ
else
B_X11_missing_13 false σ
def L_X11_firstMissed_44 (x2 : Int) (x1 : Int) (x3 : Int) (σ : Sg) : Option ((Int × Int × Sg) ⊕ (Int × Sg)) :=
if x3 < 0 then
some (.inr (x1, σ))
else
(rdn 512 σ 44 x2).bind fun v11 =>
(wrn 512 σ 46 x1 (wrap (v11 + x3))).bind fun s13 =>
some (.inl (wrap (x1 + 1), wrap (x3 + (-1)), s13))
def L_X11_firstMissed_9 (x1 : Int) (σ : Sg) : Option ((Int × Sg) ⊕ (Sg ⊕ (Int × Sg))) :=
if x1 ≤ 0 then
some (.inr (.inl σ))
else
(rdn 512 σ 46 (wrap (x1 + (-1)))).bind fun v3 =>
(rdn 512 σ 41 v3).bind fun v5 =>
if v5 = 2 then
some (.inr (.inr (v3, σ)))
else
(rdn 512 σ 45 v3).bind fun v7 =>
bnd (wrap (v7 - 1)) fun v9 =>
(iter (fun a : (Int × Int × Sg) => L_X11_firstMissed_44 v3 a.1 a.2.1 a.2.2) 3000 (wrap (x1 + (-1)), v9, σ)).bind fun y15 =>
some (.inl (y15.1, y15.2))
def F_X11_firstMissed (σ : Sg) : Option (Int × Sg) :=
(wrn 512 σ 46 0 0).bind fun s1 =>
(iter (fun a : (Int × Sg) => L_X11_firstMissed_9 a.1 a.2) 3000 (1, s1)).bind fun y17 => Sum.elim (fun z19 =>
some ((-1), z19)) (fun r20 => some r20) y17
def B_X11_example_74 (y0 : Int) (σ : Sg) : Option (Int × Sg) :=
if y0 = (-9) then
some ((-4), σ)
else
some (y0, σ)
def B_X11_example_41 (x1 : Int) (x2 : Int) (y0 : Bool) (σ : Sg) : Option (Int × Sg) :=
bnd (F_X11_refused (b2i y0) σ) fun q1 =>
if q1.1 = true then
some (0, q1.2)
else
bnd (up2 q1.2 0 40 0) fun s3 =>
bnd (up2 s3 0 41 x2) fun s5 =>
if 1 ≤ x1 then
(F_X11_factAt x1 s5).bind fun q7 =>
B_X11_example_74 q7.1 q7.2
else
B_X11_example_74 (-9) s5
def B_X11_example_30 (x1 : Int) (x2 : Int) (σ : Sg) : Option (Int × Sg) :=
if x2 = (-1) then
B_X11_example_41 x1 x2 true σ
else
B_X11_example_41 x1 x2 false σ
def B_X11_example_29 (x1 : Int) (y0 : Int) (σ : Sg) : Option (Int × Sg) :=
B_X11_example_30 x1 y0 σ
def F_X11_example (a1 : Int) (σ : Sg) : Option (Int × Sg) :=
if (σ 0 21) ≤ 0 then
B_X11_example_30 a1 (-1) σ
else
(F_X11_build 2 σ).bind fun q9 =>
if (q9 0 55) = 0 then
(F_X11_firstMissed q9).bind fun q11 =>
B_X11_example_29 a1 q11.1 q11.2
else
B_X11_example_29 a1 (-1) q9
def B_X11_isUsed_99 (x4 : Int) (y0 : Bool) (σ : Sg) : Option ((Bool × Int) ⊕ Bool) :=
some (.inl (y0, wrap (x4 + 1)))
def B_X11_isUsed_94 (x4 : Int) (σ : Sg) : Option ((Bool × Int) ⊕ Bool) :=
B_X11_isUsed_99 x4 true σ
def B_X11_isUsed_98 (x4 : Int) (σ : Sg) : Option ((Bool × Int) ⊕ Bool) :=
B_X11_isUsed_99 x4 false σ
def B_X11_isUsed_83 (x1 : Int) (x4 : Int) (σ : Sg) : Option ((Bool × Int) ⊕ Bool) :=
(rdn 512 σ 42 x4).bind fun v7 =>
if v7 = x1 then
B_X11_isUsed_94 x4 σ
else
B_X11_isUsed_98 x4 σ
def L_X11_isUsed_49 (x1 : Int) (σ : Sg) (x3 : Bool) (x4 : Int) : Option ((Bool × Int) ⊕ Bool) :=
if (σ 0 56) ≤ x4 then
some (.inr x3)
else
if x3 = true then
B_X11_isUsed_94 x4 σ
else
(rdn 512 σ 41 x4).bind fun v5 =>
if v5 = 0 then
B_X11_isUsed_83 x1 x4 σ
else
(rdn 512 σ 41 x4).bind fun v9 =>
if v9 = 1 then
B_X11_isUsed_83 x1 x4 σ
else
B_X11_isUsed_98 x4 σ
def B_X11_isUsed_36 (x1 : Int) (y0 : Int) (σ : Sg) : Option (Bool × Sg) :=
bnd (F_X11_refused y0 σ) fun q3 =>
if q3.1 = true then
some (false, q3.2)
else
(iter (fun a : (Bool × Int) => L_X11_isUsed_49 x1 q3.2 a.1 a.2) 3000 (false, 0)).bind fun y11 =>
some (y11, q3.2)
def B_X11_isUsed_15 (x1 : Int) (x2 : Bool) (σ : Sg) : Option (Bool × Sg) :=
if x2 = true then
if (σ 0 55) = 0 then
B_X11_isUsed_36 x1 0 σ
else
B_X11_isUsed_36 x1 2 σ
else
B_X11_isUsed_36 x1 1 σ
def F_X11_isUsed (a1 : Int) (σ : Sg) : Option (Bool × Sg) :=
bnd (F_X11_isCase a1 σ) fun v1 =>
if v1 = true then
(F_X11_build 2 σ).bind fun q13 =>
B_X11_isUsed_15 a1 v1 q13
else
B_X11_isUsed_15 a1 v1 σ
def I_X11_init_0 (σ : Sg) : Sg :=
bnd (fresh σ 1) fun s1 =>
bnd (fresh s1 2) fun s3 =>
bnd (fresh s3 3) fun s5 =>
bnd (fresh s5 4) fun s7 =>
bnd (fresh s7 5) fun s9 =>
bnd (fresh s9 6) fun s11 =>
bnd (fresh s11 7) fun s13 =>
bnd (fresh s13 8) fun s15 =>
bnd (fresh s15 9) fun s17 =>
bnd (fresh s17 10) fun s19 =>
bnd (fresh s19 11) fun s21 =>
bnd (fresh s21 12) fun s23 =>
bnd (fresh s23 13) fun s25 =>
bnd (fresh s25 14) fun s27 =>
bnd (fresh s27 15) fun s29 =>
bnd (fresh s29 16) fun s31 =>
bnd (fresh s31 17) fun s33 =>
bnd (fresh s33 18) fun s35 =>
bnd (fresh s35 19) fun s37 =>
bnd (fresh s37 20) fun s39 =>
bnd (fresh s39 21) fun s41 =>
bnd (fresh s41 22) fun s43 =>
bnd (fresh s43 23) fun s45 =>
bnd (fresh s45 24) fun s47 =>
bnd (fresh s47 25) fun s49 =>
bnd (fresh s49 26) fun s51 =>
bnd (fresh s51 27) fun s53 =>
bnd (fresh s53 28) fun s55 =>
bnd (fresh s55 29) fun s57 =>
bnd (fresh s57 30) fun s59 =>
bnd (fresh s59 31) fun s61 =>
bnd (fresh s61 32) fun s63 =>
bnd (fresh s63 33) fun s65 =>
bnd (fresh s65 34) fun s67 =>
bnd (fresh s67 35) fun s69 =>
bnd (fresh s69 36) fun s71 =>
bnd (fresh s71 37) fun s73 =>
bnd (fresh s73 38) fun s75 =>
bnd (fresh s75 39) fun s77 =>
bnd (fresh s77 40) fun s79 =>
bnd (fresh s79 41) fun s81 =>
bnd (fresh s81 42) fun s83 =>
bnd (fresh s83 43) fun s85 =>
bnd (fresh s85 44) fun s87 =>
bnd (fresh s87 45) fun s89 =>
bnd (fresh s89 46) fun s91 =>
bnd (fresh s91 47) fun s93 =>
bnd (fresh s93 48) fun s95 =>
bnd (fresh s95 49) fun s97 =>
bnd (fresh s97 50) fun s99 =>
bnd (up2 s99 18 0 1) fun s101 =>
bnd (up2 s101 18 3 10) fun s103 =>
bnd (up2 s103 18 4 1) fun s105 =>
bnd (up2 s105 18 7 10) fun s107 =>
bnd (up2 s107 18 8 1) fun s109 =>
bnd (up2 s109 18 11 10) fun s111 =>
bnd (up2 s111 0 54 (-1)) fun s113 =>
bnd (up2 s113 0 52 (-1)) fun s115 =>
s115
