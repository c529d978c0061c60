set_option maxRecDepth 100000 in
theorem mv_qk_0 : ∀ m, m < 1 → 0 ≤ m → mv_qok m = true := by decide +kernel
set_option maxRecDepth 100000 in
theorem mv_qk_1 : ∀ m, m < 37 → 1 ≤ m → mv_qok m = true := by decide +kernel
set_option maxRecDepth 100000 in
theorem mv_qk_37 : ∀ m, m < 59 → 37 ≤ m → mv_qok m = true := by decide +kernel
set_option maxRecDepth 100000 in
theorem mv_qk_59 : ∀ m, m < 97 → 59 ≤ m → mv_qok m = true := by decide +kernel
set_option maxRecDepth 100000 in
theorem mv_qk_97 : ∀ m, m < 129 → 97 ≤ m → mv_qok m = true := by decide +kernel
set_option maxRecDepth 100000 in
theorem mv_qk_129 : ∀ m, m < 159 → 129 ≤ m → mv_qok m = true := by decide +kernel
set_option maxRecDepth 100000 in
theorem mv_qk_159 : ∀ m, m < 183 → 159 ≤ m → mv_qok m = true := by decide +kernel
set_option maxRecDepth 100000 in
theorem mv_qk_183 : ∀ m, m < 209 → 183 ≤ m → mv_qok m = true := by decide +kernel
set_option maxRecDepth 100000 in
theorem mv_qk_209 : ∀ m, m < 238 → 209 ≤ m → mv_qok m = true := by decide +kernel
set_option maxRecDepth 100000 in
theorem mv_qk_238 : ∀ m, m < 265 → 238 ≤ m → mv_qok m = true := by decide +kernel
set_option maxRecDepth 100000 in
theorem mv_qk_265 : ∀ m, m < 290 → 265 ≤ m → mv_qok m = true := by decide +kernel
set_option maxRecDepth 100000 in
theorem mv_qk_290 : ∀ m, m < 324 → 290 ≤ m → mv_qok m = true := by decide +kernel
theorem mv_qks : ∀ m, m < 324 → mv_qok m = true := by
  intro m h2
  rcases Nat.lt_or_ge m 1 with q | q
  · exact mv_qk_0 m q (by omega)
  rcases Nat.lt_or_ge m 37 with q | q
  · exact mv_qk_1 m q (by omega)
  rcases Nat.lt_or_ge m 59 with q | q
  · exact mv_qk_37 m q (by omega)
  rcases Nat.lt_or_ge m 97 with q | q
  · exact mv_qk_59 m q (by omega)
  rcases Nat.lt_or_ge m 129 with q | q
  · exact mv_qk_97 m q (by omega)
  rcases Nat.lt_or_ge m 159 with q | q
  · exact mv_qk_129 m q (by omega)
  rcases Nat.lt_or_ge m 183 with q | q
  · exact mv_qk_159 m q (by omega)
  rcases Nat.lt_or_ge m 209 with q | q
  · exact mv_qk_183 m q (by omega)
  rcases Nat.lt_or_ge m 238 with q | q
  · exact mv_qk_209 m q (by omega)
  rcases Nat.lt_or_ge m 265 with q | q
  · exact mv_qk_238 m q (by omega)
  rcases Nat.lt_or_ge m 290 with q | q
  · exact mv_qk_265 m q (by omega)
  exact mv_qk_290 m h2 (by omega)
