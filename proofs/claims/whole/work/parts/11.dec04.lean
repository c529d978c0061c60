set_option maxRecDepth 100000 in
theorem mv_dk_1 : ∀ m, m < 9 → 1 ≤ m → mv_dcm m = true := by decide +kernel
set_option maxRecDepth 100000 in
theorem mv_dk_9 : ∀ m, m < 18 → 9 ≤ m → mv_dcm m = true := by decide +kernel
set_option maxRecDepth 100000 in
theorem mv_dk_18 : ∀ m, m < 27 → 18 ≤ m → mv_dcm m = true := by decide +kernel
set_option maxRecDepth 100000 in
theorem mv_dk_27 : ∀ m, m < 36 → 27 ≤ m → mv_dcm m = true := by decide +kernel
set_option maxRecDepth 100000 in
theorem mv_dk_36 : ∀ m, m < 43 → 36 ≤ m → mv_dcm m = true := by decide +kernel
set_option maxRecDepth 100000 in
theorem mv_dk_43 : ∀ m, m < 47 → 43 ≤ m → mv_dcm m = true := by decide +kernel
set_option maxRecDepth 100000 in
theorem mv_dk_47 : ∀ m, m < 53 → 47 ≤ m → mv_dcm m = true := by decide +kernel
set_option maxRecDepth 100000 in
theorem mv_dk_53 : ∀ m, m < 56 → 53 ≤ m → mv_dcm m = true := by decide +kernel
