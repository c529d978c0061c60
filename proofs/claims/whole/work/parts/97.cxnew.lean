/-! A new Raft is one that is being read, and nothing of it yet. -/
theorem cX_new {E : mv_E} {h1 g : mv_H} {r : Nat} (h165 : 165 ≤ r) (n : nx h1 r [(8, 5), (8, 6), (8, 7), (24, 8), (8, 9), (8, 10), (0, 11), (0, 12), (8, 15)] g) : cX E (mv_sI (mv_sI (mv_sR g 52 2 r) 52 4 0) 52 5 (-1)) r lF0 ∧ mv_I (mv_sI (mv_sI (mv_sR g 52 2 r) 52 4 0) 52 5 (-1)) r 0 = 0 ∧ mv_I (mv_sI (mv_sI (mv_sR g 52 2 r) 52 4 0) 52 5 (-1)) r 2 = 0 := by
  obtain ⟨n1, n2, n3, n4, n5⟩ := n
  have n1 : g.1 = r + 1 + 9 := n1
  have K : ∀ a, 165 ≤ a → mv_KE E (mv_sI (mv_sI (mv_sR g 52 2 r) 52 4 0) 52 5 (-1)) a = mv_K g a := fun a ha => by rw [KE_hi ha]; rfl
  have R : ∀ k, mv_RE E (mv_sI (mv_sI (mv_sR g 52 2 r) 52 4 0) 52 5 (-1)) r k = mv_R g r k := fun k => by
    rw [RE_hi h165]
    show mv_R (mv_sR g 52 2 r) r k = _
    rw [mx_upR, if_neg (by omega)]
  have I : ∀ a j, 165 ≤ a → mv_I (mv_sI (mv_sI (mv_sR g 52 2 r) 52 4 0) 52 5 (-1)) a j = mv_I g a j := fun a j ha => by rw [mx_InE (by omega), mx_InE (by omega)]; rfl
  have t0 := n3 0 (by decide)
  have t1 := n3 1 (by decide)
  have t2 := n3 2 (by decide)
  have t3 := n3 3 (by decide)
  have t4 := n3 4 (by decide)
  have t5 := n3 5 (by decide)
  have t6 := n3 6 (by decide)
  have t7 := n3 7 (by decide)
  have t8 := n3 8 (by decide)
  have z : ∀ c j, 1 ≤ c → c ≤ 9 → mv_I g (r + c) j = 0 := fun c j a b => by
    have := (n3 (c - 1) (by show c - 1 < 9; omega)).2.2 j
    rw [show r + 1 + (c - 1) = r + c by omega] at this
    exact this
  have lw : ∀ l, l < 2 → mv_R g r (11 + l) = r + 7 + l ∧ mv_K g (r + 7 + l) = (20, 0) := fun l hl => by
    rcases (by omega : l = 0 ∨ l = 1) with y | y
    · subst y; exact ⟨t6.2.1, t6.1⟩
    · subst y; exact ⟨t7.2.1, t7.1⟩
  have lx' : ∀ l, l < 2 → cLx E (mv_sI (mv_sI (mv_sR g 52 2 r) 52 4 0) 52 5 (-1)) r lF0 l := fun l hl => by
    unfold cLx
    rw [R, (lw l hl).1]
    exact ⟨0, by rw [K _ (by omega)]; exact (lw l hl).2, Or.inl rfl, by show r + 7 + l < g.1; omega, Or.inl ⟨if_neg (by omega), rfl⟩⟩
  refine ⟨⟨h165, ?_, ?_, cXv_of (fun k c j m => ?_), lx' 0 (by omega), lx' 1 (by omega), fun a a1 a2 => ?_, ?_, mx_Iss⟩, ?_, ?_⟩
  · show mv_R (mv_sR g 52 2 r) 52 2 = r
    rw [mx_upR, if_pos ⟨rfl, rfl⟩]
  · unfold cr_sh
    rw [K r h165, K (r + 1) (by omega), K (r + 2) (by omega), K (r + 3) (by omega), K (r + 4) (by omega), K (r + 5) (by omega), K (r + 6) (by omega), K (r + 7) (by omega), K (r + 8) (by omega), K (r + 9) (by omega), R, R, R, R, R, R, R]
    exact ⟨Or.inr (Or.inr (Or.inr h165)), n2, ⟨t0.2.1, t0.1⟩, ⟨t1.2.1, t1.1⟩, ⟨t2.2.1, t2.1⟩, ⟨t3.2.1, t3.1⟩, ⟨t4.2.1, t4.1⟩, ⟨t5.2.1, t5.1⟩, ⟨t8.2.1, t8.1⟩, ⟨congrArg Prod.fst t6.1, congrArg Prod.fst t7.1⟩, by show r + 9 < g.1; omega⟩
  · have b := cmap_b m
    rw [I _ _ (by omega)]
    unfold lF0
    rcases (by omega : c = 0 ∨ 1 ≤ c) with y | y
    · subst y
      have e := n4 j
      rw [show r + 0 = r from rfl, e]
      unfold cmap at m
      by_cases w : j = 1
      · rw [if_pos w, if_pos (by omega)]
      · rw [if_neg w, if_neg (by omega)]
    · rw [z c j y (by omega)]
      unfold cmap at m
      rw [if_neg (by omega)]
  · have a2 : a < g.1 := a2
    rw [K a (by omega)]
    have := (n3 (a - (r + 1)) (by show a - (r + 1) < 9; omega)).1
    rw [show r + 1 + (a - (r + 1)) = a by omega] at this
    rw [this]
  · rw [mx_Isk (by omega), mx_Iss]
  · rw [I _ _ h165, n4 0]; rfl
  · rw [I _ _ h165, n4 2]; rfl
