set_option maxRecDepth 100000 in
theorem mv_dk_120 : ∀ m, m < 126 → 120 ≤ m → mv_dcm m = true := by decide +kernel
set_option maxRecDepth 100000 in
theorem mv_dk_126 : ∀ m, m < 136 → 126 ≤ m → mv_dcm m = true := by decide +kernel
set_option maxRecDepth 100000 in
theorem mv_dk_136 : ∀ m, m < 140 → 136 ≤ m → mv_dcm m = true := by decide +kernel
set_option maxRecDepth 100000 in
theorem mv_dk_140 : ∀ m, m < 150 → 140 ≤ m → mv_dcm m = true := by decide +kernel
set_option maxRecDepth 100000 in
theorem mv_dk_150 : ∀ m, m < 157 → 150 ≤ m → mv_dcm m = true := by decide +kernel
set_option maxRecDepth 100000 in
theorem mv_dk_157 : ∀ m, m < 162 → 157 ≤ m → mv_dcm m = true := by decide +kernel
set_option maxRecDepth 100000 in
theorem mv_dk_162 : ∀ m, m < 170 → 162 ≤ m → mv_dcm m = true := by decide +kernel
set_option maxRecDepth 100000 in
theorem mv_dk_170 : ∀ m, m < 177 → 170 ≤ m → mv_dcm m = true := by decide +kernel
