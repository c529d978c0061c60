set_option maxRecDepth 100000 in
theorem mv_dl_375 : ∀ pc, pc < 450 → 375 ≤ pc → mv_dc 0 pc = true := by decide +kernel
set_option maxRecDepth 100000 in
theorem mv_dl_450 : ∀ pc, pc < 525 → 450 ≤ pc → mv_dc 0 pc = true := by decide +kernel
set_option maxRecDepth 100000 in
theorem mv_dl_525 : ∀ pc, pc < 600 → 525 ≤ pc → mv_dc 0 pc = true := by decide +kernel
set_option maxRecDepth 100000 in
theorem mv_dl_600 : ∀ pc, pc < 675 → 600 ≤ pc → mv_dc 0 pc = true := by decide +kernel
set_option maxRecDepth 100000 in
theorem mv_dl_675 : ∀ pc, pc < 750 → 675 ≤ pc → mv_dc 0 pc = true := by decide +kernel
