/-! the law's long methods -/
set_option maxRecDepth 100000 in
theorem mok_L_refuses : MOK yL_refuses cL_refuses 11 (some .boolean) 3 := ⟨tb_at 371 (by rfl) (by decide +kernel), tb_at 0 (by decide +kernel) (by decide +kernel), ⟨by decide +kernel, by decide +kernel, by decide +kernel⟩, by decide +kernel, by decide⟩
set_option maxRecDepth 100000 in
theorem mok_L_act : MOK yL_act cL_act 7 (some .int) 3 := ⟨tb_at 1378 (by rfl) (by decide +kernel), tb_at 0 (by decide +kernel) (by decide +kernel), ⟨by decide +kernel, by decide +kernel, by decide +kernel⟩, by decide +kernel, by decide⟩
set_option maxRecDepth 100000 in
theorem mok_L_agrees : MOK yL_agrees cL_agrees 18 (some .boolean) 3 := ⟨tb_at 1405 (by rfl) (by decide +kernel), tb_at 0 (by decide +kernel) (by decide +kernel), ⟨by decide +kernel, by decide +kernel, by decide +kernel⟩, by decide +kernel, by decide⟩
