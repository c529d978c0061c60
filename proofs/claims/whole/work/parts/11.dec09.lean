set_option maxRecDepth 100000 in
theorem mv_dk_274 : ∀ m, m < 279 → 274 ≤ m → mv_dcm m = true := by decide +kernel
set_option maxRecDepth 100000 in
theorem mv_dk_279 : ∀ m, m < 284 → 279 ≤ m → mv_dcm m = true := by decide +kernel
set_option maxRecDepth 100000 in
theorem mv_dk_284 : ∀ m, m < 290 → 284 ≤ m → mv_dcm m = true := by decide +kernel
set_option maxRecDepth 100000 in
theorem mv_dk_290 : ∀ m, m < 295 → 290 ≤ m → mv_dcm m = true := by decide +kernel
set_option maxRecDepth 100000 in
theorem mv_dk_295 : ∀ m, m < 302 → 295 ≤ m → mv_dcm m = true := by decide +kernel
set_option maxRecDepth 100000 in
theorem mv_dk_302 : ∀ m, m < 312 → 302 ≤ m → mv_dcm m = true := by decide +kernel
set_option maxRecDepth 100000 in
theorem mv_dk_312 : ∀ m, m < 323 → 312 ≤ m → mv_dcm m = true := by decide +kernel
set_option maxRecDepth 100000 in
theorem mv_dk_at : ∀ pc, pc < mv_lc 323 → ¬ pc = 15 → mv_dc 323 pc = true := by decide +kernel
