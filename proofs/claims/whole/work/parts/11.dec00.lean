set_option maxRecDepth 100000 in
theorem mv_dl_0 : ∀ pc, pc < 75 → 0 ≤ pc → mv_dc 0 pc = true := by decide +kernel
set_option maxRecDepth 100000 in
theorem mv_dl_75 : ∀ pc, pc < 150 → 75 ≤ pc → mv_dc 0 pc = true := by decide +kernel
set_option maxRecDepth 100000 in
theorem mv_dl_150 : ∀ pc, pc < 225 → 150 ≤ pc → mv_dc 0 pc = true := by decide +kernel
set_option maxRecDepth 100000 in
theorem mv_dl_225 : ∀ pc, pc < 300 → 225 ≤ pc → mv_dc 0 pc = true := by decide +kernel
set_option maxRecDepth 100000 in
theorem mv_dl_300 : ∀ pc, pc < 375 → 300 ≤ pc → mv_dc 0 pc = true := by decide +kernel
