set_option maxRecDepth 100000 in
theorem mv_dk_56 : ∀ m, m < 64 → 56 ≤ m → mv_dcm m = true := by decide +kernel
set_option maxRecDepth 100000 in
theorem mv_dk_64 : ∀ m, m < 75 → 64 ≤ m → mv_dcm m = true := by decide +kernel
set_option maxRecDepth 100000 in
theorem mv_dk_75 : ∀ m, m < 80 → 75 ≤ m → mv_dcm m = true := by decide +kernel
set_option maxRecDepth 100000 in
theorem mv_dk_80 : ∀ m, m < 92 → 80 ≤ m → mv_dcm m = true := by decide +kernel
set_option maxRecDepth 100000 in
theorem mv_dk_92 : ∀ m, m < 98 → 92 ≤ m → mv_dcm m = true := by decide +kernel
set_option maxRecDepth 100000 in
theorem mv_dk_98 : ∀ m, m < 103 → 98 ≤ m → mv_dcm m = true := by decide +kernel
set_option maxRecDepth 100000 in
theorem mv_dk_103 : ∀ m, m < 113 → 103 ≤ m → mv_dcm m = true := by decide +kernel
set_option maxRecDepth 100000 in
theorem mv_dk_113 : ∀ m, m < 120 → 113 ≤ m → mv_dcm m = true := by decide +kernel
