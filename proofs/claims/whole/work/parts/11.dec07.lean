set_option maxRecDepth 100000 in
theorem mv_dk_177 : ∀ m, m < 181 → 177 ≤ m → mv_dcm m = true := by decide +kernel
set_option maxRecDepth 100000 in
theorem mv_dk_181 : ∀ m, m < 183 → 181 ≤ m → mv_dcm m = true := by decide +kernel
set_option maxRecDepth 100000 in
theorem mv_dk_183 : ∀ m, m < 188 → 183 ≤ m → mv_dcm m = true := by decide +kernel
set_option maxRecDepth 100000 in
theorem mv_dk_188 : ∀ m, m < 196 → 188 ≤ m → mv_dcm m = true := by decide +kernel
set_option maxRecDepth 100000 in
theorem mv_dk_196 : ∀ m, m < 201 → 196 ≤ m → mv_dcm m = true := by decide +kernel
set_option maxRecDepth 100000 in
theorem mv_dk_201 : ∀ m, m < 207 → 201 ≤ m → mv_dcm m = true := by decide +kernel
set_option maxRecDepth 100000 in
theorem mv_dk_207 : ∀ m, m < 213 → 207 ≤ m → mv_dcm m = true := by decide +kernel
set_option maxRecDepth 100000 in
theorem mv_dk_213 : ∀ m, m < 220 → 213 ≤ m → mv_dcm m = true := by decide +kernel
