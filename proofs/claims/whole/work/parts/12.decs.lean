theorem mv_dlaw : ∀ pc, pc < 1499 → mv_dc 0 pc = true := by
  intro m h2
  rcases Nat.lt_or_ge m 75 with q | q
  · exact mv_dl_0 m q (by omega)
  rcases Nat.lt_or_ge m 150 with q | q
  · exact mv_dl_75 m q (by omega)
  rcases Nat.lt_or_ge m 225 with q | q
  · exact mv_dl_150 m q (by omega)
  rcases Nat.lt_or_ge m 300 with q | q
  · exact mv_dl_225 m q (by omega)
  rcases Nat.lt_or_ge m 375 with q | q
  · exact mv_dl_300 m q (by omega)
  rcases Nat.lt_or_ge m 450 with q | q
  · exact mv_dl_375 m q (by omega)
  rcases Nat.lt_or_ge m 525 with q | q
  · exact mv_dl_450 m q (by omega)
  rcases Nat.lt_or_ge m 600 with q | q
  · exact mv_dl_525 m q (by omega)
  rcases Nat.lt_or_ge m 675 with q | q
  · exact mv_dl_600 m q (by omega)
  rcases Nat.lt_or_ge m 750 with q | q
  · exact mv_dl_675 m q (by omega)
  rcases Nat.lt_or_ge m 825 with q | q
  · exact mv_dl_750 m q (by omega)
  rcases Nat.lt_or_ge m 900 with q | q
  · exact mv_dl_825 m q (by omega)
  rcases Nat.lt_or_ge m 975 with q | q
  · exact mv_dl_900 m q (by omega)
  rcases Nat.lt_or_ge m 1050 with q | q
  · exact mv_dl_975 m q (by omega)
  rcases Nat.lt_or_ge m 1125 with q | q
  · exact mv_dl_1050 m q (by omega)
  rcases Nat.lt_or_ge m 1200 with q | q
  · exact mv_dl_1125 m q (by omega)
  rcases Nat.lt_or_ge m 1275 with q | q
  · exact mv_dl_1200 m q (by omega)
  rcases Nat.lt_or_ge m 1350 with q | q
  · exact mv_dl_1275 m q (by omega)
  rcases Nat.lt_or_ge m 1425 with q | q
  · exact mv_dl_1350 m q (by omega)
  exact mv_dl_1425 m h2 (by omega)
theorem mv_dkr : ∀ m, 1 ≤ m → m < 323 → mv_dcm m = true := by
  intro m h1 h2
  rcases Nat.lt_or_ge m 9 with q | q
  · exact mv_dk_1 m q (by omega)
  rcases Nat.lt_or_ge m 18 with q | q
  · exact mv_dk_9 m q (by omega)
  rcases Nat.lt_or_ge m 27 with q | q
  · exact mv_dk_18 m q (by omega)
  rcases Nat.lt_or_ge m 36 with q | q
  · exact mv_dk_27 m q (by omega)
  rcases Nat.lt_or_ge m 43 with q | q
  · exact mv_dk_36 m q (by omega)
  rcases Nat.lt_or_ge m 47 with q | q
  · exact mv_dk_43 m q (by omega)
  rcases Nat.lt_or_ge m 53 with q | q
  · exact mv_dk_47 m q (by omega)
  rcases Nat.lt_or_ge m 56 with q | q
  · exact mv_dk_53 m q (by omega)
  rcases Nat.lt_or_ge m 64 with q | q
  · exact mv_dk_56 m q (by omega)
  rcases Nat.lt_or_ge m 75 with q | q
  · exact mv_dk_64 m q (by omega)
  rcases Nat.lt_or_ge m 80 with q | q
  · exact mv_dk_75 m q (by omega)
  rcases Nat.lt_or_ge m 92 with q | q
  · exact mv_dk_80 m q (by omega)
  rcases Nat.lt_or_ge m 98 with q | q
  · exact mv_dk_92 m q (by omega)
  rcases Nat.lt_or_ge m 103 with q | q
  · exact mv_dk_98 m q (by omega)
  rcases Nat.lt_or_ge m 113 with q | q
  · exact mv_dk_103 m q (by omega)
  rcases Nat.lt_or_ge m 120 with q | q
  · exact mv_dk_113 m q (by omega)
  rcases Nat.lt_or_ge m 126 with q | q
  · exact mv_dk_120 m q (by omega)
  rcases Nat.lt_or_ge m 136 with q | q
  · exact mv_dk_126 m q (by omega)
  rcases Nat.lt_or_ge m 140 with q | q
  · exact mv_dk_136 m q (by omega)
  rcases Nat.lt_or_ge m 150 with q | q
  · exact mv_dk_140 m q (by omega)
  rcases Nat.lt_or_ge m 157 with q | q
  · exact mv_dk_150 m q (by omega)
  rcases Nat.lt_or_ge m 162 with q | q
  · exact mv_dk_157 m q (by omega)
  rcases Nat.lt_or_ge m 170 with q | q
  · exact mv_dk_162 m q (by omega)
  rcases Nat.lt_or_ge m 177 with q | q
  · exact mv_dk_170 m q (by omega)
  rcases Nat.lt_or_ge m 181 with q | q
  · exact mv_dk_177 m q (by omega)
  rcases Nat.lt_or_ge m 183 with q | q
  · exact mv_dk_181 m q (by omega)
  rcases Nat.lt_or_ge m 188 with q | q
  · exact mv_dk_183 m q (by omega)
  rcases Nat.lt_or_ge m 196 with q | q
  · exact mv_dk_188 m q (by omega)
  rcases Nat.lt_or_ge m 201 with q | q
  · exact mv_dk_196 m q (by omega)
  rcases Nat.lt_or_ge m 207 with q | q
  · exact mv_dk_201 m q (by omega)
  rcases Nat.lt_or_ge m 213 with q | q
  · exact mv_dk_207 m q (by omega)
  rcases Nat.lt_or_ge m 220 with q | q
  · exact mv_dk_213 m q (by omega)
  rcases Nat.lt_or_ge m 228 with q | q
  · exact mv_dk_220 m q (by omega)
  rcases Nat.lt_or_ge m 237 with q | q
  · exact mv_dk_228 m q (by omega)
  rcases Nat.lt_or_ge m 242 with q | q
  · exact mv_dk_237 m q (by omega)
  rcases Nat.lt_or_ge m 249 with q | q
  · exact mv_dk_242 m q (by omega)
  rcases Nat.lt_or_ge m 256 with q | q
  · exact mv_dk_249 m q (by omega)
  rcases Nat.lt_or_ge m 260 with q | q
  · exact mv_dk_256 m q (by omega)
  rcases Nat.lt_or_ge m 269 with q | q
  · exact mv_dk_260 m q (by omega)
  rcases Nat.lt_or_ge m 274 with q | q
  · exact mv_dk_269 m q (by omega)
  rcases Nat.lt_or_ge m 279 with q | q
  · exact mv_dk_274 m q (by omega)
  rcases Nat.lt_or_ge m 284 with q | q
  · exact mv_dk_279 m q (by omega)
  rcases Nat.lt_or_ge m 290 with q | q
  · exact mv_dk_284 m q (by omega)
  rcases Nat.lt_or_ge m 295 with q | q
  · exact mv_dk_290 m q (by omega)
  rcases Nat.lt_or_ge m 302 with q | q
  · exact mv_dk_295 m q (by omega)
  rcases Nat.lt_or_ge m 312 with q | q
  · exact mv_dk_302 m q (by omega)
  exact mv_dk_312 m h2 (by omega)
theorem mv_dks : ∀ m, m < 324 → ∀ pc, pc < mv_lc m → ¬ (m = 323 ∧ pc = 15) → mv_dc m pc = true := by
  intro m hm pc hp hn
  rcases Nat.lt_or_ge m 1 with q | q
  · have e : m = 0 := by omega
    subst e
    exact mv_dlaw pc hp
  · by_cases e : m = 323
    · subst e
      exact mv_dk_at pc hp (fun z => hn ⟨rfl, z⟩)
    · exact List.all_eq_true.mp (mv_dkr m q (by omega)) pc (List.mem_range.mpr hp)
