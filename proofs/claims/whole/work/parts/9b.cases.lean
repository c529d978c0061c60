/-! The law's cases. -/
def lawG (h : mv_H) : Prop := gS h ∧ ∀ j, j < 9 → mv_I h 47 j = nI (sp_fac j)
def lawI (E : mv_E) (h : mv_H) : Prop := lawG h ∧ InvM (vw_of h) ∧ InvC E h (vw_of h)
def lawB (E : mv_E) (x : Int32) : Prop := (true && mv_in (x + 1) (mv_sl E)) = true ∧ (true && mv_in (x + 2) (mv_sl E)) = true ∧ (true && mv_in (x + 3) (mv_sl E)) = true ∧ (true && mv_in (x + 4) (mv_sl E)) = true ∧ (true && mv_in (x + 5) (mv_sl E)) = true
theorem lawI.s {E : mv_E} {h h1 h2 : mv_H} {V : vw} (g : lawG h) (f1 : fCl h h1) (i1 : InvC E h1 V) (m1 : InvM V) (f2 : fM V h1 h2) : lawI E h2 := by
  obtain ⟨z, e⟩ := f2
  have low : ∀ a, a < 50 → mv_I h2 a = mv_I h a := fun a ha => funext fun j => by rw [(z.2.2 a j (mx_sMf (by omega))).1, (f1 a j (Or.inl ha)).1]
  refine ⟨⟨g.1.o low, fun j hj => by rw [low 47 (by omega)]; exact g.2 j hj⟩, ?_⟩
  rw [e]
  exact ⟨m1, i1.1.fz z (fun a k q => mx_sMf (by omega)), i1.2.fz z (fun a k q => mx_sMf (by unfold cr_reg at q; omega))⟩
theorem fCl.e48 {h h1 : mv_H} (f : fCl h h1) : mv_I h1 48 = mv_I h 48 := funext fun j => (f 48 j (Or.inl (by omega))).1
theorem lc232 {E : mv_E} {D k n : Nat} {h : mv_H} {Q : mv_Q} {x3 : Int32} (iv : lawI E h) (b : lawB E x3) (K : ∀ h', lawI E h' → mv_VE E (D + 100) k n 0 18 [some (.ref 48), some (.ref 50), some (.ref 148), some (.int (x3 + 6))] [] h' Q) : mv_VE E (D + 100) k n 0 232 [some (.ref 48), some (.ref 50), some (.ref 148), some (.int x3)] [] h Q := by
  obtain ⟨ig, im, ic⟩ := iv
  apply sg0_232
  refine mv_gdI b.1 (mv_gdI b.2.1 (mv_gdI b.2.2.1 (mv_gdI b.2.2.2.1 (mv_gdI b.2.2.2.2 (cc99 (D := D + 98) ic im (fun h1 i1 f1 => ⟨_, rfl, ?_⟩))))))
  rw [f1.e48]
  refine mv_gdI b.1 (mv_gdI b.2.1 (mv_gdI b.2.2.1 (mv_gdI b.2.2.2.1 (mv_gdI b.2.2.2.2 (cm180 (D := D + 99) f1.vw im (fun h2 f2 => ⟨_, rfl, ?_⟩))))))
  rw [if_pos rfl]
  exact K h2 (lawI.s ig f1 i1 (im_feed im) f2)
theorem lc295 {E : mv_E} {D k n : Nat} {h : mv_H} {Q : mv_Q} {x3 : Int32} (iv : lawI E h) (b : lawB E x3) (hk : 911 ≤ k) (hn : 989 ≤ n) (K : ∀ h', lawI E h' → mv_VE E (D + 100) (k - 911) (n - 989) 0 18 [some (.ref 48), some (.ref 50), some (.ref 148), some (.int (x3 + 6))] [] h' Q) : mv_VE E (D + 100) k n 0 295 [some (.ref 48), some (.ref 50), some (.ref 148), some (.int x3)] [] h Q := by
  obtain ⟨ig, im, ic⟩ := iv
  apply sg0_295
  refine mv_gdI b.1 ⟨(911, 989), hk, hn, fun ag => cc101 (D := D + 89) ig.1 ic im ag.1 (Nat.le_refl _) (Nat.le_refl _) (fun h1 i1 f1 => ⟨_, rfl, ?_⟩) ag⟩
  rw [f1.e48]
  refine mv_gdI b.1 (cm181 (D := D + 65) f1.vw (ig.1.o (fun a ha => funext fun j => (f1 a j (Or.inl ha)).1)) im (fun h2 f2 m2 => ⟨_, rfl, ?_⟩))
  rw [if_pos rfl]
  exact K h2 (lawI.s ig f1 i1 m2 f2)
theorem lc318 {E : mv_E} {D k n : Nat} {h : mv_H} {Q : mv_Q} {x3 : Int32} (iv : lawI E h) (b : lawB E x3) (K : ∀ h', lawI E h' → mv_VE E (D + 100) k n 0 18 [some (.ref 48), some (.ref 50), some (.ref 148), some (.int (x3 + 6))] [] h' Q) : mv_VE E (D + 100) k n 0 318 [some (.ref 48), some (.ref 50), some (.ref 148), some (.int x3)] [] h Q := by
  obtain ⟨ig, im, ic⟩ := iv
  apply sg0_318
  refine mv_gdI b.1 (cc102 (D := D + 99) ic (fun h1 i1 f1 => ⟨_, rfl, ?_⟩))
  rw [f1.e48]
  refine mv_gdI b.1 (cm208 (D := D + 99) f1.vw (fun h2 f2 => ⟨_, rfl, ?_⟩))
  rw [if_pos rfl]
  exact K h2 (lawI.s ig f1 i1 im f2)
theorem lc341 {E : mv_E} {D k n : Nat} {h : mv_H} {Q : mv_Q} {x3 : Int32} (iv : lawI E h) (b : lawB E x3) (K : ∀ h', lawI E h' → mv_VE E (D + 100) k n 0 18 [some (.ref 48), some (.ref 50), some (.ref 148), some (.int (x3 + 6))] [] h' Q) : mv_VE E (D + 100) k n 0 341 [some (.ref 48), some (.ref 50), some (.ref 148), some (.int x3)] [] h Q := by
  obtain ⟨ig, im, ic⟩ := iv
  apply sg0_341
  refine mv_gdI b.1 (mv_gdI b.2.1 (cc103 (D := D + 98) ic im (fun h1 i1 f1 => ⟨_, rfl, ?_⟩)))
  rw [f1.e48]
  refine mv_gdI b.1 (mv_gdI b.2.1 (cm209 (D := D + 97) f1.vw im (fun h2 f2 => ⟨_, rfl, ?_⟩)))
  rw [if_pos rfl]
  exact K h2 (lawI.s ig f1 i1 im f2)
theorem lc374 {E : mv_E} {D k n : Nat} {h : mv_H} {Q : mv_Q} {x3 : Int32} (iv : lawI E h) (b : lawB E x3) (K : ∀ h', lawI E h' → mv_VE E (D + 100) k n 0 18 [some (.ref 48), some (.ref 50), some (.ref 148), some (.int (x3 + 6))] [] h' Q) : mv_VE E (D + 100) k n 0 374 [some (.ref 48), some (.ref 50), some (.ref 148), some (.int x3)] [] h Q := by
  obtain ⟨ig, im, ic⟩ := iv
  apply sg0_374
  refine mv_gdI b.1 (cc105 (D := D + 96) ic im (fun h1 i1 f1 => ⟨_, rfl, ?_⟩))
  rw [f1.e48]
  refine mv_gdI b.1 (cm211 (D := D + 96) f1.vw im (fun h2 f2 => ⟨_, rfl, ?_⟩))
  rw [if_pos rfl]
  exact K h2 (lawI.s ig f1 i1 im f2)
theorem lc397 {E : mv_E} {D k n : Nat} {h : mv_H} {Q : mv_Q} {x3 : Int32} (iv : lawI E h) (b : lawB E x3) (K : ∀ h', lawI E h' → mv_VE E (D + 100) k n 0 18 [some (.ref 48), some (.ref 50), some (.ref 148), some (.int (x3 + 6))] [] h' Q) : mv_VE E (D + 100) k n 0 397 [some (.ref 48), some (.ref 50), some (.ref 148), some (.int x3)] [] h Q := by
  obtain ⟨ig, im, ic⟩ := iv
  apply sg0_397
  refine mv_gdI b.1 (cc106 (D := D + 94) ic im (fun h1 i1 f1 => ⟨_, rfl, ?_⟩))
  rw [f1.e48]
  refine mv_gdI b.1 (cm217 (D := D + 95) f1.vw im (fun h2 f2 => ⟨_, rfl, ?_⟩))
  rw [if_pos rfl]
  exact K h2 (lawI.s ig f1 i1 im f2)
theorem lc420 {E : mv_E} {D k n : Nat} {h : mv_H} {Q : mv_Q} {x3 : Int32} (iv : lawI E h) (b : lawB E x3) (K : ∀ h', lawI E h' → mv_VE E (D + 100) k n 0 18 [some (.ref 48), some (.ref 50), some (.ref 148), some (.int (x3 + 6))] [] h' Q) : mv_VE E (D + 100) k n 0 420 [some (.ref 48), some (.ref 50), some (.ref 148), some (.int x3)] [] h Q := by
  obtain ⟨ig, im, ic⟩ := iv
  apply sg0_420
  refine mv_gdI b.1 (cc109 (D := D + 97) ic im (fun h1 i1 f1 => ⟨_, rfl, ?_⟩))
  rw [f1.e48]
  refine mv_gdI b.1 (cm225 (D := D + 96) f1.vw im (fun h2 f2 => ⟨_, rfl, ?_⟩))
  rw [if_pos rfl]
  exact K h2 (lawI.s ig f1 i1 im f2)
theorem lc443 {E : mv_E} {D k n : Nat} {h : mv_H} {Q : mv_Q} {x3 : Int32} (iv : lawI E h) (b : lawB E x3) (K : ∀ h', lawI E h' → mv_VE E (D + 100) k n 0 18 [some (.ref 48), some (.ref 50), some (.ref 148), some (.int (x3 + 6))] [] h' Q) : mv_VE E (D + 100) k n 0 443 [some (.ref 48), some (.ref 50), some (.ref 148), some (.int x3)] [] h Q := by
  obtain ⟨ig, im, ic⟩ := iv
  apply sg0_443
  refine mv_gdI b.1 (cc110 (D := D + 95) ic im (fun h1 i1 f1 => ⟨_, rfl, ?_⟩))
  rw [f1.e48]
  refine mv_gdI b.1 (cm226 (D := D + 94) f1.vw im (fun h2 f2 => ⟨_, rfl, ?_⟩))
  rw [if_pos rfl]
  exact K h2 (lawI.s ig f1 i1 (im_weeks im) f2)
theorem lc466 {E : mv_E} {D k n : Nat} {h : mv_H} {Q : mv_Q} {x3 : Int32} (iv : lawI E h) (b : lawB E x3) (K : ∀ h', lawI E h' → mv_VE E (D + 100) k n 0 18 [some (.ref 48), some (.ref 50), some (.ref 148), some (.int (x3 + 6))] [] h' Q) : mv_VE E (D + 100) k n 0 466 [some (.ref 48), some (.ref 50), some (.ref 148), some (.int x3)] [] h Q := by
  obtain ⟨ig, im, ic⟩ := iv
  apply sg0_466
  refine mv_gdI b.1 (cc111 (D := D + 93) ic im (fun h1 i1 f1 => ⟨_, rfl, ?_⟩))
  rw [f1.e48]
  refine mv_gdI b.1 (cm231 (D := D + 94) f1.vw im (fun h2 f2 => ⟨_, rfl, ?_⟩))
  rw [if_pos rfl]
  exact K h2 (lawI.s ig f1 i1 (im_turn im) f2)
theorem lc489 {E : mv_E} {D k n : Nat} {h : mv_H} {Q : mv_Q} {x3 : Int32} (iv : lawI E h) (b : lawB E x3) (K : ∀ h', lawI E h' → mv_VE E (D + 100) k n 0 18 [some (.ref 48), some (.ref 50), some (.ref 148), some (.int (x3 + 6))] [] h' Q) : mv_VE E (D + 100) k n 0 489 [some (.ref 48), some (.ref 50), some (.ref 148), some (.int x3)] [] h Q := by
  obtain ⟨ig, im, ic⟩ := iv
  apply sg0_489
  refine mv_gdI b.1 (cc114 (D := D + 93) ic im (fun h1 i1 f1 => ⟨_, rfl, ?_⟩))
  rw [f1.e48]
  refine mv_gdI b.1 (cm234 (D := D + 94) f1.vw im (fun h2 f2 => ⟨_, rfl, ?_⟩))
  rw [if_pos rfl]
  exact K h2 (lawI.s ig f1 i1 (im_turn im) f2)
theorem lc512 {E : mv_E} {D k n : Nat} {h : mv_H} {Q : mv_Q} {x3 : Int32} (iv : lawI E h) (b : lawB E x3) (K : ∀ h', lawI E h' → mv_VE E (D + 100) k n 0 18 [some (.ref 48), some (.ref 50), some (.ref 148), some (.int (x3 + 6))] [] h' Q) : mv_VE E (D + 100) k n 0 512 [some (.ref 48), some (.ref 50), some (.ref 148), some (.int x3)] [] h Q := by
  obtain ⟨ig, im, ic⟩ := iv
  apply sg0_512
  refine mv_gdI b.1 (mv_gdI b.2.1 (cc115 (D := D + 96) ic im (fun h1 i1 f1 => ⟨_, rfl, ?_⟩)))
  rw [f1.e48]
  refine mv_gdI b.1 (mv_gdI b.2.1 (cm235 (D := D + 97) f1.vw im (fun h2 f2 => ⟨_, rfl, ?_⟩)))
  rw [if_pos rfl]
  exact K h2 (lawI.s ig f1 i1 (im_mend im) f2)
theorem lc545 {E : mv_E} {D k n : Nat} {h : mv_H} {Q : mv_Q} {x3 : Int32} (iv : lawI E h) (b : lawB E x3) (K : ∀ h', lawI E h' → mv_VE E (D + 100) k n 0 18 [some (.ref 48), some (.ref 50), some (.ref 148), some (.int (x3 + 6))] [] h' Q) : mv_VE E (D + 100) k n 0 545 [some (.ref 48), some (.ref 50), some (.ref 148), some (.int x3)] [] h Q := by
  obtain ⟨ig, im, ic⟩ := iv
  apply sg0_545
  refine mv_gdI b.1 (cc116 (D := D + 96) ic im (fun h1 i1 f1 => ⟨_, rfl, ?_⟩))
  rw [f1.e48]
  refine mv_gdI b.1 (cm236 (D := D + 98) f1.vw im (fun h2 f2 => ⟨_, rfl, ?_⟩))
  rw [if_pos rfl]
  exact K h2 (lawI.s ig f1 i1 (im_storm im) f2)
theorem lc568 {E : mv_E} {D k n : Nat} {h : mv_H} {Q : mv_Q} {x3 : Int32} (iv : lawI E h) (b : lawB E x3) (K : ∀ h', lawI E h' → mv_VE E (D + 100) k n 0 18 [some (.ref 48), some (.ref 50), some (.ref 148), some (.int (x3 + 6))] [] h' Q) : mv_VE E (D + 100) k n 0 568 [some (.ref 48), some (.ref 50), some (.ref 148), some (.int x3)] [] h Q := by
  obtain ⟨ig, im, ic⟩ := iv
  apply sg0_568
  refine mv_gdI b.1 (cc117 (D := D + 96) ic im (fun h1 i1 f1 => ⟨_, rfl, ?_⟩))
  rw [f1.e48]
  refine mv_gdI b.1 (cm237 (D := D + 98) f1.vw im (fun h2 f2 => ⟨_, rfl, ?_⟩))
  rw [if_pos rfl]
  exact K h2 (lawI.s ig f1 i1 (im_undo im) f2)
theorem lc591 {E : mv_E} {D k n : Nat} {h : mv_H} {Q : mv_Q} {x3 : Int32} (iv : lawI E h) (b : lawB E x3) (K : ∀ h', lawI E h' → mv_VE E (D + 100) k n 0 18 [some (.ref 48), some (.ref 50), some (.ref 148), some (.int (x3 + 6))] [] h' Q) : mv_VE E (D + 100) k n 0 591 [some (.ref 48), some (.ref 50), some (.ref 148), some (.int x3)] [] h Q := by
  obtain ⟨ig, im, ic⟩ := iv
  apply sg0_591
  refine mv_gdI b.1 (mv_gdI b.2.1 (cc118 (D := D + 93) ic im (fun h1 i1 f1 => ⟨_, rfl, ?_⟩)))
  rw [f1.e48]
  refine mv_gdI b.1 (mv_gdI b.2.1 (cm238 (D := D + 92) f1.vw im (fun h2 f2 => ⟨_, rfl, ?_⟩)))
  rw [if_pos rfl]
  exact K h2 (lawI.s ig f1 i1 im f2)
theorem lc624 {E : mv_E} {D k n : Nat} {h : mv_H} {Q : mv_Q} {x3 : Int32} (iv : lawI E h) (b : lawB E x3) (K : ∀ h', lawI E h' → mv_VE E (D + 100) k n 0 18 [some (.ref 48), some (.ref 50), some (.ref 148), some (.int (x3 + 6))] [] h' Q) : mv_VE E (D + 100) k n 0 624 [some (.ref 48), some (.ref 50), some (.ref 148), some (.int x3)] [] h Q := by
  obtain ⟨ig, im, ic⟩ := iv
  apply sg0_624
  refine mv_gdI b.1 (cc123 (D := D + 93) ic im (fun h1 i1 f1 => ⟨_, rfl, ?_⟩))
  rw [f1.e48]
  refine mv_gdI b.1 (cm244 (D := D + 92) f1.vw im (fun h2 f2 => ⟨_, rfl, ?_⟩))
  rw [if_pos rfl]
  exact K h2 (lawI.s ig f1 i1 (im_perform im) f2)
theorem lc647 {E : mv_E} {D k n : Nat} {h : mv_H} {Q : mv_Q} {x3 : Int32} (iv : lawI E h) (b : lawB E x3) (K : ∀ h', lawI E h' → mv_VE E (D + 100) k n 0 18 [some (.ref 48), some (.ref 50), some (.ref 148), some (.int (x3 + 6))] [] h' Q) : mv_VE E (D + 100) k n 0 647 [some (.ref 48), some (.ref 50), some (.ref 148), some (.int x3)] [] h Q := by
  obtain ⟨ig, im, ic⟩ := iv
  apply sg0_647
  refine mv_gdI b.1 (mv_gdI b.2.1 (cc124 (D := D + 93) ic im (fun h1 i1 f1 => ⟨_, rfl, ?_⟩)))
  rw [f1.e48]
  refine mv_gdI b.1 (mv_gdI b.2.1 (cm245 (D := D + 93) f1.vw im (fun h2 f2 => ⟨_, rfl, ?_⟩)))
  rw [if_pos rfl]
  exact K h2 (lawI.s ig f1 i1 (im_year im) f2)
theorem lc680 {E : mv_E} {D k n : Nat} {h : mv_H} {Q : mv_Q} {x3 : Int32} (iv : lawI E h) (b : lawB E x3) (K : ∀ h', lawI E h' → mv_VE E (D + 100) k n 0 18 [some (.ref 48), some (.ref 50), some (.ref 148), some (.int (x3 + 6))] [] h' Q) : mv_VE E (D + 100) k n 0 680 [some (.ref 48), some (.ref 50), some (.ref 148), some (.int x3)] [] h Q := by
  obtain ⟨ig, im, ic⟩ := iv
  apply sg0_680
  refine mv_gdI b.1 (mv_gdI b.2.1 (cc127 (D := D + 94) ic im (fun h1 i1 f1 => ⟨_, rfl, ?_⟩)))
  rw [f1.e48]
  refine mv_gdI b.1 (mv_gdI b.2.1 (cm248 (D := D + 94) f1.vw im (fun h2 f2 => ⟨_, rfl, ?_⟩)))
  rw [if_pos rfl]
  exact K h2 (lawI.s ig f1 i1 im f2)
theorem lc713 {E : mv_E} {D k n : Nat} {h : mv_H} {Q : mv_Q} {x3 : Int32} (iv : lawI E h) (b : lawB E x3) (K : ∀ h', lawI E h' → mv_VE E (D + 100) k n 0 18 [some (.ref 48), some (.ref 50), some (.ref 148), some (.int (x3 + 6))] [] h' Q) : mv_VE E (D + 100) k n 0 713 [some (.ref 48), some (.ref 50), some (.ref 148), some (.int x3)] [] h Q := by
  obtain ⟨ig, im, ic⟩ := iv
  apply sg0_713
  refine mv_gdI b.1 (cc129 (D := D + 95) ic im (fun h1 i1 f1 => ⟨_, rfl, ?_⟩))
  rw [f1.e48]
  refine mv_gdI b.1 (cm250 (D := D + 95) f1.vw im (fun h2 f2 => ⟨_, rfl, ?_⟩))
  rw [if_pos rfl]
  exact K h2 (lawI.s ig f1 i1 im f2)
theorem lc736 {E : mv_E} {D k n : Nat} {h : mv_H} {Q : mv_Q} {x3 : Int32} (iv : lawI E h) (b : lawB E x3) (K : ∀ h', lawI E h' → mv_VE E (D + 100) k n 0 18 [some (.ref 48), some (.ref 50), some (.ref 148), some (.int (x3 + 6))] [] h' Q) : mv_VE E (D + 100) k n 0 736 [some (.ref 48), some (.ref 50), some (.ref 148), some (.int x3)] [] h Q := by
  obtain ⟨ig, im, ic⟩ := iv
  apply sg0_736
  refine cc130 (D := D + 94) ic im (fun h1 i1 f1 => ⟨_, rfl, ?_⟩)
  refine cm251 (D := D + 95) f1.vw im (fun h2 f2 => ⟨_, rfl, ?_⟩)
  rw [if_pos rfl]
  exact K h2 (lawI.s ig f1 i1 im f2)
theorem lc749 {E : mv_E} {D k n : Nat} {h : mv_H} {Q : mv_Q} {x3 : Int32} (iv : lawI E h) (b : lawB E x3) (K : ∀ h', lawI E h' → mv_VE E (D + 100) k n 0 18 [some (.ref 48), some (.ref 50), some (.ref 148), some (.int (x3 + 6))] [] h' Q) : mv_VE E (D + 100) k n 0 749 [some (.ref 48), some (.ref 50), some (.ref 148), some (.int x3)] [] h Q := by
  obtain ⟨ig, im, ic⟩ := iv
  apply sg0_749
  refine cc131 (D := D + 95) ic im (fun h1 i1 f1 => ⟨_, rfl, ?_⟩)
  refine cm252 (D := D + 95) f1.vw im (fun h2 f2 => ⟨_, rfl, ?_⟩)
  rw [if_pos rfl]
  exact K h2 (lawI.s ig f1 i1 im f2)
theorem lc762 {E : mv_E} {D k n : Nat} {h : mv_H} {Q : mv_Q} {x3 : Int32} (iv : lawI E h) (b : lawB E x3) (K : ∀ h', lawI E h' → mv_VE E (D + 100) k n 0 18 [some (.ref 48), some (.ref 50), some (.ref 148), some (.int (x3 + 6))] [] h' Q) : mv_VE E (D + 100) k n 0 762 [some (.ref 48), some (.ref 50), some (.ref 148), some (.int x3)] [] h Q := by
  obtain ⟨ig, im, ic⟩ := iv
  apply sg0_762
  refine mv_gdI b.1 (mv_gdI b.2.1 (cc132 (D := D + 93) ic im (fun h1 i1 f1 => ⟨_, rfl, ?_⟩)))
  rw [f1.e48]
  refine mv_gdI b.1 (mv_gdI b.2.1 (cm253 (D := D + 94) f1.vw im (fun h2 f2 => ⟨_, rfl, ?_⟩)))
  rw [if_pos rfl]
  exact K h2 (lawI.s ig f1 i1 im f2)
theorem lc795 {E : mv_E} {D k n : Nat} {h : mv_H} {Q : mv_Q} {x3 : Int32} (iv : lawI E h) (b : lawB E x3) (K : ∀ h', lawI E h' → mv_VE E (D + 100) k n 0 18 [some (.ref 48), some (.ref 50), some (.ref 148), some (.int (x3 + 6))] [] h' Q) : mv_VE E (D + 100) k n 0 795 [some (.ref 48), some (.ref 50), some (.ref 148), some (.int x3)] [] h Q := by
  obtain ⟨ig, im, ic⟩ := iv
  apply sg0_795
  refine mv_gdI b.1 (cc136 (D := D + 94) ic im (fun h1 i1 f1 => ⟨_, rfl, ?_⟩))
  rw [f1.e48]
  refine mv_gdI b.1 (cm256 (D := D + 94) f1.vw im (fun h2 f2 => ⟨_, rfl, ?_⟩))
  rw [if_pos rfl]
  exact K h2 (lawI.s ig f1 i1 im f2)
theorem lc818 {E : mv_E} {D k n : Nat} {h : mv_H} {Q : mv_Q} {x3 : Int32} (iv : lawI E h) (b : lawB E x3) (K : ∀ h', lawI E h' → mv_VE E (D + 100) k n 0 18 [some (.ref 48), some (.ref 50), some (.ref 148), some (.int (x3 + 6))] [] h' Q) : mv_VE E (D + 100) k n 0 818 [some (.ref 48), some (.ref 50), some (.ref 148), some (.int x3)] [] h Q := by
  obtain ⟨ig, im, ic⟩ := iv
  apply sg0_818
  refine mv_gdI b.1 (mv_gdI b.2.1 (mv_gdI b.2.2.1 (cc137 (D := D + 97) ic im (fun h1 i1 f1 => ⟨_, rfl, ?_⟩))))
  rw [f1.e48]
  refine mv_gdI b.1 (mv_gdI b.2.1 (mv_gdI b.2.2.1 (cm257 (D := D + 96) f1.vw im (fun h2 f2 => ⟨_, rfl, ?_⟩))))
  rw [if_pos rfl]
  exact K h2 (lawI.s ig f1 i1 im f2)
theorem lc861 {E : mv_E} {D k n : Nat} {h : mv_H} {Q : mv_Q} {x3 : Int32} (iv : lawI E h) (b : lawB E x3) (K : ∀ h', lawI E h' → mv_VE E (D + 100) k n 0 18 [some (.ref 48), some (.ref 50), some (.ref 148), some (.int (x3 + 6))] [] h' Q) : mv_VE E (D + 100) k n 0 861 [some (.ref 48), some (.ref 50), some (.ref 148), some (.int x3)] [] h Q := by
  obtain ⟨ig, im, ic⟩ := iv
  apply sg0_861
  refine mv_gdI b.1 (cc138 (D := D + 95) ic im (fun h1 i1 f1 => ⟨_, rfl, ?_⟩))
  rw [f1.e48]
  refine mv_gdI b.1 (cm259 (D := D + 95) f1.vw im (fun h2 f2 => ⟨_, rfl, ?_⟩))
  rw [if_pos rfl]
  exact K h2 (lawI.s ig f1 i1 im f2)
theorem lc884 {E : mv_E} {D k n : Nat} {h : mv_H} {Q : mv_Q} {x3 : Int32} (iv : lawI E h) (b : lawB E x3) (K : ∀ h', lawI E h' → mv_VE E (D + 100) k n 0 18 [some (.ref 48), some (.ref 50), some (.ref 148), some (.int (x3 + 6))] [] h' Q) : mv_VE E (D + 100) k n 0 884 [some (.ref 48), some (.ref 50), some (.ref 148), some (.int x3)] [] h Q := by
  obtain ⟨ig, im, ic⟩ := iv
  apply sg0_884
  refine cc139 (D := D + 95) ic im (fun h1 i1 f1 => ⟨_, rfl, ?_⟩)
  refine cm260 (D := D + 95) f1.vw im (fun h2 f2 => ⟨_, rfl, ?_⟩)
  rw [if_pos rfl]
  exact K h2 (lawI.s ig f1 i1 im f2)
theorem lc897 {E : mv_E} {D k n : Nat} {h : mv_H} {Q : mv_Q} {x3 : Int32} (iv : lawI E h) (b : lawB E x3) (K : ∀ h', lawI E h' → mv_VE E (D + 100) k n 0 18 [some (.ref 48), some (.ref 50), some (.ref 148), some (.int (x3 + 6))] [] h' Q) : mv_VE E (D + 100) k n 0 897 [some (.ref 48), some (.ref 50), some (.ref 148), some (.int x3)] [] h Q := by
  obtain ⟨ig, im, ic⟩ := iv
  apply sg0_897
  refine mv_gdI b.1 (mv_gdI b.2.1 (cc140 (D := D + 97) ig.2 ic im (fun h1 i1 f1 => ⟨_, rfl, ?_⟩)))
  rw [f1.e48]
  refine mv_gdI b.1 (mv_gdI b.2.1 (cm261 (D := D + 59) f1.vw im (fun h2 f2 => ⟨_, rfl, ?_⟩)))
  rw [if_pos rfl]
  exact K h2 (lawI.s ig f1 i1 im f2)
theorem lc930 {E : mv_E} {D k n : Nat} {h : mv_H} {Q : mv_Q} {x3 : Int32} (iv : lawI E h) (b : lawB E x3) (K : ∀ h', lawI E h' → mv_VE E (D + 100) k n 0 18 [some (.ref 48), some (.ref 50), some (.ref 148), some (.int (x3 + 6))] [] h' Q) : mv_VE E (D + 100) k n 0 930 [some (.ref 48), some (.ref 50), some (.ref 148), some (.int x3)] [] h Q := by
  obtain ⟨ig, im, ic⟩ := iv
  apply sg0_930
  refine cc144 (D := D + 96) ic im (fun h1 i1 f1 => ⟨_, rfl, ?_⟩)
  refine cm267 (D := D + 84) f1.vw im (fun h2 f2 => ⟨_, rfl, ?_⟩)
  rw [if_pos rfl]
  exact K h2 (lawI.s ig f1 i1 im f2)
theorem lc943 {E : mv_E} {D k n : Nat} {h : mv_H} {Q : mv_Q} {x3 : Int32} (iv : lawI E h) (b : lawB E x3) (K : ∀ h', lawI E h' → mv_VE E (D + 100) k n 0 18 [some (.ref 48), some (.ref 50), some (.ref 148), some (.int (x3 + 6))] [] h' Q) : mv_VE E (D + 100) k n 0 943 [some (.ref 48), some (.ref 50), some (.ref 148), some (.int x3)] [] h Q := by
  obtain ⟨ig, im, ic⟩ := iv
  apply sg0_943
  refine mv_gdI b.1 (cc145 (D := D + 96) ic im (fun h1 i1 f1 => ⟨_, rfl, ?_⟩))
  rw [f1.e48]
  refine mv_gdI b.1 (cm268 (D := D + 95) f1.vw im (fun h2 f2 => ⟨_, rfl, ?_⟩))
  rw [if_pos rfl]
  exact K h2 (lawI.s ig f1 i1 im f2)
theorem lc966 {E : mv_E} {D k n : Nat} {h : mv_H} {Q : mv_Q} {x3 : Int32} (iv : lawI E h) (b : lawB E x3) (K : ∀ h', lawI E h' → mv_VE E (D + 100) k n 0 18 [some (.ref 48), some (.ref 50), some (.ref 148), some (.int (x3 + 6))] [] h' Q) : mv_VE E (D + 100) k n 0 966 [some (.ref 48), some (.ref 50), some (.ref 148), some (.int x3)] [] h Q := by
  obtain ⟨ig, im, ic⟩ := iv
  apply sg0_966
  refine mv_gdI b.1 (cc146 (D := D + 97) ic im (fun h1 i1 f1 => ⟨_, rfl, ?_⟩))
  rw [f1.e48]
  refine mv_gdI b.1 (cm269 (D := D + 95) f1.vw im (fun h2 f2 => ⟨_, rfl, ?_⟩))
  rw [if_pos rfl]
  exact K h2 (lawI.s ig f1 i1 im f2)
theorem lc989 {E : mv_E} {D k n : Nat} {h : mv_H} {Q : mv_Q} {x3 : Int32} (iv : lawI E h) (b : lawB E x3) (K : ∀ h', lawI E h' → mv_VE E (D + 100) k n 0 18 [some (.ref 48), some (.ref 50), some (.ref 148), some (.int (x3 + 6))] [] h' Q) : mv_VE E (D + 100) k n 0 989 [some (.ref 48), some (.ref 50), some (.ref 148), some (.int x3)] [] h Q := by
  obtain ⟨ig, im, ic⟩ := iv
  apply sg0_989
  refine mv_gdI b.1 (mv_gdI b.2.1 (cc147 (D := D + 97) ic im (fun h1 i1 f1 => ⟨_, rfl, ?_⟩)))
  rw [f1.e48]
  refine mv_gdI b.1 (mv_gdI b.2.1 (cm271 (D := D + 98) f1.vw im (fun h2 f2 => ⟨_, rfl, ?_⟩)))
  rw [if_pos rfl]
  exact K h2 (lawI.s ig f1 i1 im f2)
theorem lc1022 {E : mv_E} {D k n : Nat} {h : mv_H} {Q : mv_Q} {x3 : Int32} (iv : lawI E h) (b : lawB E x3) (K : ∀ h', lawI E h' → mv_VE E (D + 100) k n 0 18 [some (.ref 48), some (.ref 50), some (.ref 148), some (.int (x3 + 6))] [] h' Q) : mv_VE E (D + 100) k n 0 1022 [some (.ref 48), some (.ref 50), some (.ref 148), some (.int x3)] [] h Q := by
  obtain ⟨ig, im, ic⟩ := iv
  apply sg0_1022
  refine mv_gdI b.1 (cc149 (D := D + 95) ic im (fun h1 i1 f1 => ⟨_, rfl, ?_⟩))
  rw [f1.e48]
  refine mv_gdI b.1 (cm273 (D := D + 98) f1.vw im (fun h2 f2 => ⟨_, rfl, ?_⟩))
  rw [if_pos rfl]
  exact K h2 (lawI.s ig f1 i1 im f2)
theorem lc1045 {E : mv_E} {D k n : Nat} {h : mv_H} {Q : mv_Q} {x3 : Int32} (iv : lawI E h) (b : lawB E x3) (K : ∀ h', lawI E h' → mv_VE E (D + 100) k n 0 18 [some (.ref 48), some (.ref 50), some (.ref 148), some (.int (x3 + 6))] [] h' Q) : mv_VE E (D + 100) k n 0 1045 [some (.ref 48), some (.ref 50), some (.ref 148), some (.int x3)] [] h Q := by
  obtain ⟨ig, im, ic⟩ := iv
  apply sg0_1045
  refine mv_gdI b.1 (cc153 (D := D + 79) ic im (fun h1 i1 f1 => ⟨_, rfl, ?_⟩))
  rw [f1.e48]
  refine mv_gdI b.1 (cm274 (D := D + 79) f1.vw im (fun h2 f2 => ⟨_, rfl, ?_⟩))
  rw [if_pos rfl]
  exact K h2 (lawI.s ig f1 i1 im f2)
theorem lc1068 {E : mv_E} {D k n : Nat} {h : mv_H} {Q : mv_Q} {x3 : Int32} (iv : lawI E h) (b : lawB E x3) (K : ∀ h', lawI E h' → mv_VE E (D + 100) k n 0 18 [some (.ref 48), some (.ref 50), some (.ref 148), some (.int (x3 + 6))] [] h' Q) : mv_VE E (D + 100) k n 0 1068 [some (.ref 48), some (.ref 50), some (.ref 148), some (.int x3)] [] h Q := by
  obtain ⟨ig, im, ic⟩ := iv
  apply sg0_1068
  refine cc154 (D := D + 98) ic im (fun h1 i1 f1 => ⟨_, rfl, ?_⟩)
  refine cm276 (D := D + 98) f1.vw im (fun h2 f2 => ⟨_, rfl, ?_⟩)
  rw [if_pos rfl]
  exact K h2 (lawI.s ig f1 i1 im f2)
theorem lc1081 {E : mv_E} {D k n : Nat} {h : mv_H} {Q : mv_Q} {x3 : Int32} (iv : lawI E h) (b : lawB E x3) (K : ∀ h', lawI E h' → mv_VE E (D + 100) k n 0 18 [some (.ref 48), some (.ref 50), some (.ref 148), some (.int (x3 + 6))] [] h' Q) : mv_VE E (D + 100) k n 0 1081 [some (.ref 48), some (.ref 50), some (.ref 148), some (.int x3)] [] h Q := by
  obtain ⟨ig, im, ic⟩ := iv
  apply sg0_1081
  refine mv_gdI b.1 (mv_gdI b.2.1 (cc155 (D := D + 93) ic im (fun h1 i1 f1 => ⟨_, rfl, ?_⟩)))
  rw [f1.e48]
  refine mv_gdI b.1 (mv_gdI b.2.1 (cm277 (D := D + 93) f1.vw im (fun h2 f2 => ⟨_, rfl, ?_⟩)))
  rw [if_pos rfl]
  exact K h2 (lawI.s ig f1 i1 im f2)
theorem lc1114 {E : mv_E} {D k n : Nat} {h : mv_H} {Q : mv_Q} {x3 : Int32} (iv : lawI E h) (b : lawB E x3) (K : ∀ h', lawI E h' → mv_VE E (D + 100) k n 0 18 [some (.ref 48), some (.ref 50), some (.ref 148), some (.int (x3 + 6))] [] h' Q) : mv_VE E (D + 100) k n 0 1114 [some (.ref 48), some (.ref 50), some (.ref 148), some (.int x3)] [] h Q := by
  obtain ⟨ig, im, ic⟩ := iv
  apply sg0_1114
  refine mv_gdI b.1 (cc159 (D := D + 94) ic im (fun h1 i1 f1 => ⟨_, rfl, ?_⟩))
  rw [f1.e48]
  refine mv_gdI b.1 (cm282 (D := D + 94) f1.vw im (fun h2 f2 => ⟨_, rfl, ?_⟩))
  rw [if_pos rfl]
  exact K h2 (lawI.s ig f1 i1 im f2)
theorem lc1137 {E : mv_E} {D k n : Nat} {h : mv_H} {Q : mv_Q} {x3 : Int32} (iv : lawI E h) (b : lawB E x3) (K : ∀ h', lawI E h' → mv_VE E (D + 100) k n 0 18 [some (.ref 48), some (.ref 50), some (.ref 148), some (.int (x3 + 6))] [] h' Q) : mv_VE E (D + 100) k n 0 1137 [some (.ref 48), some (.ref 50), some (.ref 148), some (.int x3)] [] h Q := by
  obtain ⟨ig, im, ic⟩ := iv
  apply sg0_1137
  refine mv_gdI b.1 (mv_gdI b.2.1 (cc160 (D := D + 93) ic im (fun h1 i1 f1 => ⟨_, rfl, ?_⟩)))
  rw [f1.e48]
  refine mv_gdI b.1 (mv_gdI b.2.1 (cm283 (D := D + 93) f1.vw im (fun h2 f2 => ⟨_, rfl, ?_⟩)))
  rw [if_pos rfl]
  exact K h2 (lawI.s ig f1 i1 im f2)
theorem lc1170 {E : mv_E} {D k n : Nat} {h : mv_H} {Q : mv_Q} {x3 : Int32} (iv : lawI E h) (b : lawB E x3) (K : ∀ h', lawI E h' → mv_VE E (D + 100) k n 0 18 [some (.ref 48), some (.ref 50), some (.ref 148), some (.int (x3 + 6))] [] h' Q) : mv_VE E (D + 100) k n 0 1170 [some (.ref 48), some (.ref 50), some (.ref 148), some (.int x3)] [] h Q := by
  obtain ⟨ig, im, ic⟩ := iv
  apply sg0_1170
  refine mv_gdI b.1 (cc163 (D := D + 93) ic im (fun h1 i1 f1 => ⟨_, rfl, ?_⟩))
  rw [f1.e48]
  refine mv_gdI b.1 (cm285 (D := D + 38) f1.vw im (fun h2 f2 => ⟨_, rfl, ?_⟩))
  rw [if_pos rfl]
  exact K h2 (lawI.s ig f1 i1 im f2)
theorem lc1193 {E : mv_E} {D k n : Nat} {h : mv_H} {Q : mv_Q} {x3 : Int32} (iv : lawI E h) (b : lawB E x3) (K : ∀ h', lawI E h' → mv_VE E (D + 100) k n 0 18 [some (.ref 48), some (.ref 50), some (.ref 148), some (.int (x3 + 6))] [] h' Q) : mv_VE E (D + 100) k n 0 1193 [some (.ref 48), some (.ref 50), some (.ref 148), some (.int x3)] [] h Q := by
  obtain ⟨ig, im, ic⟩ := iv
  apply sg0_1193
  refine mv_gdI b.1 (cc165 (D := D + 93) ic im (fun h1 i1 f1 => ⟨_, rfl, ?_⟩))
  rw [f1.e48]
  refine mv_gdI b.1 (cm290 (D := D + 38) f1.vw im (fun h2 f2 => ⟨_, rfl, ?_⟩))
  rw [if_pos rfl]
  exact K h2 (lawI.s ig f1 i1 im f2)
theorem lc1216 {E : mv_E} {D k n : Nat} {h : mv_H} {Q : mv_Q} {x3 : Int32} (iv : lawI E h) (b : lawB E x3) (K : ∀ h', lawI E h' → mv_VE E (D + 100) k n 0 18 [some (.ref 48), some (.ref 50), some (.ref 148), some (.int (x3 + 6))] [] h' Q) : mv_VE E (D + 100) k n 0 1216 [some (.ref 48), some (.ref 50), some (.ref 148), some (.int x3)] [] h Q := by
  obtain ⟨ig, im, ic⟩ := iv
  apply sg0_1216
  refine mv_gdI b.1 (mv_gdI b.2.1 (cc166 (D := D + 93) ic im (fun h1 i1 f1 => ⟨_, rfl, ?_⟩)))
  rw [f1.e48]
  refine mv_gdI b.1 (mv_gdI b.2.1 (cm291 (D := D + 9) f1.vw im (fun h2 f2 => ⟨_, rfl, ?_⟩)))
  rw [if_pos rfl]
  exact K h2 (lawI.s ig f1 i1 im f2)
theorem lc1249 {E : mv_E} {D k n : Nat} {h : mv_H} {Q : mv_Q} {x3 : Int32} (iv : lawI E h) (b : lawB E x3) (K : ∀ h', lawI E h' → mv_VE E (D + 100) k n 0 18 [some (.ref 48), some (.ref 50), some (.ref 148), some (.int (x3 + 6))] [] h' Q) : mv_VE E (D + 100) k n 0 1249 [some (.ref 48), some (.ref 50), some (.ref 148), some (.int x3)] [] h Q := by
  obtain ⟨ig, im, ic⟩ := iv
  apply sg0_1249
  refine mv_gdI b.1 (mv_gdI b.2.1 (cc171 (D := D + 93) ic im (fun h1 i1 f1 => ⟨_, rfl, ?_⟩)))
  rw [f1.e48]
  refine mv_gdI b.1 (mv_gdI b.2.1 (cm297 (D := D + 9) f1.vw im (fun h2 f2 => ⟨_, rfl, ?_⟩)))
  rw [if_pos rfl]
  exact K h2 (lawI.s ig f1 i1 im f2)
theorem lc1282 {E : mv_E} {D k n : Nat} {h : mv_H} {Q : mv_Q} {x3 : Int32} (iv : lawI E h) (b : lawB E x3) (K : ∀ h', lawI E h' → mv_VE E (D + 100) k n 0 18 [some (.ref 48), some (.ref 50), some (.ref 148), some (.int (x3 + 6))] [] h' Q) : mv_VE E (D + 100) k n 0 1282 [some (.ref 48), some (.ref 50), some (.ref 148), some (.int x3)] [] h Q := by
  obtain ⟨ig, im, ic⟩ := iv
  apply sg0_1282
  refine mv_gdI b.1 (mv_gdI b.2.1 (mv_gdI b.2.2.1 (cc172 (D := D + 97) ic im (fun h1 i1 f1 => ⟨_, rfl, ?_⟩))))
  rw [f1.e48]
  refine mv_gdI b.1 (mv_gdI b.2.1 (mv_gdI b.2.2.1 (cm298 (D := D + 98) f1.vw (fun h2 f2 => ⟨_, rfl, ?_⟩))))
  rw [if_pos rfl]
  exact K h2 (lawI.s ig f1 i1 (im_numbers im) f2)
theorem lc1325 {E : mv_E} {D k n : Nat} {h : mv_H} {Q : mv_Q} {x3 : Int32} (iv : lawI E h) (b : lawB E x3) (K : ∀ h', lawI E h' → mv_VE E (D + 100) k n 0 18 [some (.ref 48), some (.ref 50), some (.ref 148), some (.int (x3 + 6))] [] h' Q) : mv_VE E (D + 100) k n 0 1325 [some (.ref 48), some (.ref 50), some (.ref 148), some (.int x3)] [] h Q := by
  obtain ⟨ig, im, ic⟩ := iv
  apply sg0_1325
  refine mv_gdI b.1 (mv_gdI b.2.1 (mv_gdI b.2.2.1 (mv_gdI b.2.2.2.1 (cc173 (D := D + 98) ic (fun h1 i1 f1 => ⟨_, rfl, ?_⟩)))))
  rw [f1.e48]
  refine mv_gdI b.1 (mv_gdI b.2.1 (mv_gdI b.2.2.1 (mv_gdI b.2.2.2.1 (cm299 (D := D + 97) f1.vw im (fun h2 f2 => ⟨_, rfl, ?_⟩)))))
  rw [if_pos ((lg_cmp_eq _ _).mpr rfl)]
  exact K h2 (lawI.s ig f1 i1 (im_write im) f2)
theorem lc1399 {E : mv_E} {D k n : Nat} {h : mv_H} {Q : mv_Q} {x3 : Int32} (iv : lawI E h) (b : lawB E x3) (K : ∀ h', lawI E h' → mv_VE E (D + 100) k n 0 18 [some (.ref 48), some (.ref 50), some (.ref 148), some (.int (x3 + 6))] [] h' Q) : mv_VE E (D + 100) k n 0 1399 [some (.ref 48), some (.ref 50), some (.ref 148), some (.int x3)] [] h Q := by
  obtain ⟨ig, im, ic⟩ := iv
  apply sg0_1399
  refine mv_gdI b.1 (cc174 (D := D + 95) ic im (fun h1 i1 f1 => ⟨_, rfl, ?_⟩))
  rw [f1.e48]
  refine mv_gdI b.1 (cm301 (D := D + 95) f1.vw im (fun h2 f2 => ⟨_, rfl, ?_⟩))
  rw [if_pos rfl]
  exact K h2 (lawI.s ig f1 i1 (im_lists im) f2)
theorem lc1422 {E : mv_E} {D k n : Nat} {h : mv_H} {Q : mv_Q} {x3 : Int32} (iv : lawI E h) (b : lawB E x3) (K : ∀ h', lawI E h' → mv_VE E (D + 100) k n 0 18 [some (.ref 48), some (.ref 50), some (.ref 148), some (.int (x3 + 6))] [] h' Q) : mv_VE E (D + 100) k n 0 1422 [some (.ref 48), some (.ref 50), some (.ref 148), some (.int x3)] [] h Q := by
  obtain ⟨ig, im, ic⟩ := iv
  apply sg0_1422
  refine mv_gdI b.1 (cc175 (D := D + 97) ic im (fun h1 i1 f1 => ⟨_, rfl, ?_⟩))
  rw [f1.e48]
  refine mv_gdI b.1 (cm302 (D := D + 98) f1.vw (fun h2 f2 => ⟨_, rfl, ?_⟩))
  rw [if_pos rfl]
  exact K h2 (lawI.s ig f1 i1 (im_image im) f2)
theorem lc1445 {E : mv_E} {D k n : Nat} {h : mv_H} {Q : mv_Q} {x3 : Int32} (iv : lawI E h) (b : lawB E x3) (K : ∀ h', lawI E h' → mv_VE E (D + 100) k n 0 18 [some (.ref 48), some (.ref 50), some (.ref 148), some (.int (x3 + 6))] [] h' Q) : mv_VE E (D + 100) k n 0 1445 [some (.ref 48), some (.ref 50), some (.ref 148), some (.int x3)] [] h Q := by
  obtain ⟨ig, im, ic⟩ := iv
  apply sg0_1445
  refine mv_gdI b.1 (cc176 (D := D + 97) ic im (fun h1 i1 f1 => ⟨_, rfl, ?_⟩))
  rw [f1.e48]
  refine mv_gdI b.1 (cm303 (D := D + 98) f1.vw (fun h2 f2 => ⟨_, rfl, ?_⟩))
  rw [if_pos rfl]
  exact K h2 (lawI.s ig f1 i1 (im_restore im) f2)
theorem lc1468 {E : mv_E} {D k n : Nat} {h : mv_H} {Q : mv_Q} {x3 : Int32} (iv : lawI E h) (b : lawB E x3) (K : ∀ h', lawI E h' → mv_VE E (D + 100) k n 0 18 [some (.ref 48), some (.ref 50), some (.ref 148), some (.int (x3 + 6))] [] h' Q) : mv_VE E (D + 100) k n 0 1468 [some (.ref 48), some (.ref 50), some (.ref 148), some (.int x3)] [] h Q := by
  obtain ⟨ig, im, ic⟩ := iv
  apply sg0_1468
  refine mv_gdI b.1 (cc177 (D := D + 94) ic im (fun h1 i1 f1 => ⟨_, rfl, ?_⟩))
  rw [f1.e48]
  refine mv_gdI b.1 (cm304 (D := D + 95) f1.vw im (fun h2 f2 => ⟨_, rfl, ?_⟩))
  rw [if_pos rfl]
  exact K h2 (lawI.s ig f1 i1 im f2)
theorem lc1491 {E : mv_E} {D k n : Nat} {h : mv_H} {Q : mv_Q} {x3 : Int32} (iv : lawI E h) (K : ∀ h', lawI E h' → mv_VE E (D + 100) k n 0 18 [some (.ref 48), some (.ref 50), some (.ref 148), some (.int (x3 + 6))] [] h' Q) : mv_VE E (D + 100) k n 0 1491 [some (.ref 48), some (.ref 50), some (.ref 148), some (.int x3)] [] h Q := by
  apply sg0_1491
  exact K h iv
