set_option maxRecDepth 100000 in
theorem mv_dl_1125 : ∀ pc, pc < 1200 → 1125 ≤ pc → mv_dc 0 pc = true := by decide +kernel
set_option maxRecDepth 100000 in
theorem mv_dl_1200 : ∀ pc, pc < 1275 → 1200 ≤ pc → mv_dc 0 pc = true := by decide +kernel
set_option maxRecDepth 100000 in
theorem mv_dl_1275 : ∀ pc, pc < 1350 → 1275 ≤ pc → mv_dc 0 pc = true := by decide +kernel
set_option maxRecDepth 100000 in
theorem mv_dl_1350 : ∀ pc, pc < 1425 → 1350 ≤ pc → mv_dc 0 pc = true := by decide +kernel
set_option maxRecDepth 100000 in
theorem mv_dl_1425 : ∀ pc, pc < 1499 → 1425 ≤ pc → mv_dc 0 pc = true := by decide +kernel
