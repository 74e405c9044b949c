set_option maxRecDepth 1000000 in
set_option maxHeartbeats 4000000 in
theorem c11w : lw_tbl[1294]? = some (Cond.code yX11_init cX11_init 1 none) := by rfl
theorem lkL_17 : LI RL 17 yX10_init cX10_init 1 := ⟨(bg_good (bg_cons (bg_of 118 (by decide +kernel) rfl) bg_bg)), (bg_of 95 (by decide +kernel) rfl), (bg_of 116 (by decide +kernel) rfl), (bg_of 117 (by decide +kernel) rfl), by decide +kernel, ⟨by decide +kernel, by decide +kernel, by decide +kernel⟩⟩
theorem lkL_20 : LI RL 20 yX11_init cX11_init 1 := ⟨(bg_good (bg_cons (bg_of 1294 c11w rfl) bg_bg)), (bg_of 107 (by decide +kernel) rfl), (bg_of 1292 (by decide +kernel) rfl), (bg_of 1293 (by decide +kernel) rfl), by decide +kernel, ⟨by decide +kernel, by decide +kernel, by decide +kernel⟩⟩
theorem sL_X10 : Cond.classLink RL 8 RX10 ∈ bg ∧ Cond.instantiable RX10 14 ∈ bg ∧ Cond.initialized RX10 ∈ bg := ⟨(bg_of 114 (by decide +kernel) rfl), (bg_of 115 (by decide +kernel) rfl), (bg_of 95 (by decide +kernel) rfl)⟩
theorem sL_X11 : Cond.classLink RL 18 RX11 ∈ bg ∧ Cond.instantiable RX11 45 ∈ bg ∧ Cond.initialized RX11 ∈ bg := ⟨(bg_of 1290 (by decide +kernel) rfl), (bg_of 1291 (by decide +kernel) rfl), (bg_of 107 (by decide +kernel) rfl)⟩
