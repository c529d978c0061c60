set_option maxRecDepth 100000 in
theorem mv_dk_220 : ∀ m, m < 228 → 220 ≤ m → mv_dcm m = true := by decide +kernel
set_option maxRecDepth 100000 in
theorem mv_dk_228 : ∀ m, m < 237 → 228 ≤ m → mv_dcm m = true := by decide +kernel
set_option maxRecDepth 100000 in
theorem mv_dk_237 : ∀ m, m < 242 → 237 ≤ m → mv_dcm m = true := by decide +kernel
set_option maxRecDepth 100000 in
theorem mv_dk_242 : ∀ m, m < 249 → 242 ≤ m → mv_dcm m = true := by decide +kernel
set_option maxRecDepth 100000 in
theorem mv_dk_249 : ∀ m, m < 256 → 249 ≤ m → mv_dcm m = true := by decide +kernel
set_option maxRecDepth 100000 in
theorem mv_dk_256 : ∀ m, m < 260 → 256 ≤ m → mv_dcm m = true := by decide +kernel
set_option maxRecDepth 100000 in
theorem mv_dk_260 : ∀ m, m < 269 → 260 ≤ m → mv_dcm m = true := by decide +kernel
set_option maxRecDepth 100000 in
theorem mv_dk_269 : ∀ m, m < 274 → 269 ≤ m → mv_dcm m = true := by decide +kernel
