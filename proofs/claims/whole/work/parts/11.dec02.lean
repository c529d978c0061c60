set_option maxRecDepth 100000 in
theorem mv_dl_750 : ∀ pc, pc < 825 → 750 ≤ pc → mv_dc 0 pc = true := by decide +kernel
set_option maxRecDepth 100000 in
theorem mv_dl_825 : ∀ pc, pc < 900 → 825 ≤ pc → mv_dc 0 pc = true := by decide +kernel
set_option maxRecDepth 100000 in
theorem mv_dl_900 : ∀ pc, pc < 975 → 900 ≤ pc → mv_dc 0 pc = true := by decide +kernel
set_option maxRecDepth 100000 in
theorem mv_dl_975 : ∀ pc, pc < 1050 → 975 ≤ pc → mv_dc 0 pc = true := by decide +kernel
set_option maxRecDepth 100000 in
theorem mv_dl_1050 : ∀ pc, pc < 1125 → 1050 ≤ pc → mv_dc 0 pc = true := by decide +kernel
