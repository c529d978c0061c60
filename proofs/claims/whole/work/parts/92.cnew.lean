/-! A new row for a law. -/
theorem KE_hi {E : mv_E} {h : mv_H} {a : Nat} (ha : 165 ≤ a) : mv_KE E h a = mv_K h a := by
  unfold mv_KE mv_KT
  rw [show (mv_S (mv_sl E)).1 = 165 from rfl, Nat.ble_eq_true_of_le ha]; rfl
theorem RE_hi {E : mv_E} {h : mv_H} {a k : Nat} (ha : 165 ≤ a) : mv_RE E h a k = mv_R h a k := by
  unfold mv_RE mv_RT
  rw [show (mv_S (mv_sl E)).1 = 165 from rfl, Nat.ble_eq_true_of_le ha]; rfl
theorem fx_hi {E : mv_E} {a k : Nat} (ha : 165 ≤ a) : mv_fx (mv_S (mv_sl E)) a k = false := by
  unfold mv_fx
  rw [show (mv_S (mv_sl E)).1 = 165 from rfl, Nat.ble_eq_true_of_le ha]; rfl
/-- a cell was made, and is a copy of the reader's row -/
def gnew (L : Nat) (h h' : mv_H) : Prop := h'.1 = h.1 + 1 ∧ mv_K h' h.1 = (20, L) ∧ (∀ j, j < L → mv_I h' h.1 j = mv_I h 59 j) ∧ ∀ a, a ≠ h.1 → mv_K h' a = mv_K h a ∧ mv_I h' a = mv_I h a ∧ mv_J h' a = mv_J h a ∧ mv_R h' a = mv_R h a
theorem ct17 {E : mv_E} {D k n : Nat} {h : mv_H} {Q : mv_Q} {L : Nat} (hk : 1 ≤ k) (hn : L ≤ n) (h1 : 165 ≤ h.1) (e : mv_I h 58 2 = nI L) (hL : L < 900) (H : ∀ h', gnew L h h' → Q (some (.ref h.1)) h') : mv_VE E (D + 2) k n 17 0 [some (.ref 58)] [] h Q := by
  apply sg17_0
  refine ⟨(1, L), hk, hn, ?_⟩
  rw [e]
  apply sg321_0
  have K59 : ∀ g : mv_H, mv_KE E g 59 = (20, 900) := fun _ => rfl
  rw [K59]
  refine mv_gdI rfl ?_
  rw [if_neg (show ¬ nI L = nI (20, 900).2 from fun c => absurd ((nI_eq (a := L) (b := 900) (by omega) (by omega)).mp c) (by omega)), nI_clamp (by omega)]
  have kc : mv_K (mv_new h 20 L) h.1 = (20, L) := by
    show cond (Nat.beq h.1 h.1) (20, L) (h.2.1 h.1) = (20, L)
    rw [mv_beq]; rfl
  have KC : mv_KE E (mv_new h 20 L) h.1 = (20, L) := by rw [KE_hi h1]; exact kc
  refine mv_gdI ?_ ?_
  · rw [mx_in L (by omega) (by omega), show (mv_S (mv_sl E)).1 = 165 from rfl, Nat.ble_eq_true_of_le h1, Nat.ble_eq_true_of_le (Nat.le_refl L)]; rfl
  · show mv_gd _ _
    rw [K59, KC, if_pos (show nI L < nI (20, 900).2 from (nI_ltI (a := L) (b := 900) (by omega) (by omega)).mpr hL), nI_clamp (by omega)]
    refine mv_gdI rfl (mv_gdI ?_ ⟨_, rfl, H _ ⟨rfl, kc, fun j hj => ?_, fun a ha => ⟨?_, ?_, ?_, ?_⟩⟩⟩)
    · rw [mx_in L (by omega) (by omega), Nat.zero_add, Nat.ble_eq_true_of_le (show L ≤ (20, 900).2 from (by show L ≤ 900; omega)), Nat.ble_eq_true_of_le (show L ≤ (20, L).2 from Nat.le_refl _)]; rfl
    · show mv_row _ h.1 (va_cpy (mv_I (mv_new h 20 L) 59) _ 0 0 L) h.1 j = _
      rw [mv_row_self]
      unfold va_cpy
      rw [if_pos ⟨Nat.zero_le _, by omega⟩, Nat.zero_add, Nat.sub_zero]
      show mv_row h.2.2.1 h.1 (fun _ => 0) 59 j = mv_I h 59 j
      rw [mv_row_ne (by omega)]; rfl
    · show cond (Nat.beq a h.1) (20, L) (h.2.1 a) = h.2.1 a
      rw [mv_bne ha]; rfl
    · show mv_row (mv_row h.2.2.1 h.1 (fun _ => 0)) h.1 _ a = h.2.2.1 a
      rw [mv_row_ne ha, mv_row_ne ha]
    · show mv_row h.2.2.2.1 h.1 (fun _ => 0) a = h.2.2.2.1 a
      rw [mv_row_ne ha]
    · show mv_row h.2.2.2.2 h.1 (fun _ => 0) a = h.2.2.2.2 a
      rw [mv_row_ne ha]
/-- what the other law needs -/
def lreg (F : Nat → Int32) (b m : Nat) : Prop := F (3 + m) = 0 ∨ (F (3 + m) = 1 ∧ sp_F F m + sp_N F m ≤ b)
theorem cX.nw {E : mv_E} {h h' : mv_H} {r l b : Nat} {F : Nat → Int32} {R : List Nat} (q : cX E h r F) (hl : l < 2) (g : gnew R.length h h') (hb : b + R.length ≤ 900) (e1 : F 187 = nI b) (ok : rOk R) (rows : ∀ j, j < R.length → mv_I h 59 j = nI (cr_tr (R.getD j 0))) (o : ∀ m, m < 2 → m ≠ l → lreg F b m) : cX E (mv_sR h' r (11 + l) h.1) r (lstore l F R) := by
  obtain ⟨c1, c2, c3, c4, c5, c6, c7, c8, c9⟩ := q
  obtain ⟨g1, g2, g3, g4⟩ := g
  have r9 : r + 9 < h.1 := c3.2.2.2.2.2.2.2.2.2.2
  have eb : (F 187).toNatClampNeg = b := by rw [e1, nI_clamp (by omega)]
  have Kn : ∀ a, a ≠ h.1 → mv_KE E (mv_sR h' r (11 + l) h.1) a = mv_KE E h a := fun a ha => by
    rcases Nat.lt_or_ge a 165 with z | z
    · unfold mv_KE mv_KT
      have : Nat.ble 165 a = false := by
        cases w : Nat.ble 165 a with
        | false => rfl
        | true => exact absurd (Nat.le_of_ble_eq_true w) (by omega)
      rw [show (mv_S (mv_sl E)).1 = 165 from rfl, this]; rfl
    · rw [KE_hi z, KE_hi z]; exact (g4 a ha).1
  have Kc : mv_KE E (mv_sR h' r (11 + l) h.1) h.1 = (20, R.length) := by rw [KE_hi (by omega)]; exact g2
  have Rn : ∀ j, j ≠ 11 + l → mv_RE E (mv_sR h' r (11 + l) h.1) r j = mv_RE E h r j := fun j hj => by
    rw [RE_hi c1, RE_hi c1, mx_upR, if_neg (fun z => hj z.2), (g4 r (by omega)).2.2.2]
  have Rc : mv_RE E (mv_sR h' r (11 + l) h.1) r (11 + l) = h.1 := by rw [RE_hi c1, mx_upR, if_pos ⟨rfl, rfl⟩]
  have In : ∀ a, a ≠ h.1 → mv_I (mv_sR h' r (11 + l) h.1) a = mv_I h a := fun a ha => (g4 a ha).2.1
  have lo : ∀ k, k < 187 → k ≠ 3 + l → k ≠ 5 + l → k ≠ 7 + l → lstore l F R k = F k := fun k a1 a2 a3 a4 => by
    unfold lstore
    rw [if_neg a2, if_neg a3, if_neg a4, if_neg (by omega), eb, if_neg (by omega)]
  have old : ∀ k, 188 ≤ k → k < 188 + b → lstore l F R k = F k := fun k a1 a2 => by
    unfold lstore
    rw [if_neg (by omega), if_neg (by omega), if_neg (by omega), if_neg (by omega), eb, if_neg (by omega)]
  have this : cLx E (mv_sR h' r (11 + l) h.1) r (lstore l F R) l := by
    have eF : sp_F (lstore l F R) l = b := by
      unfold sp_F lstore
      rw [if_neg (by omega), if_pos rfl, e1, nI_clamp (by omega)]
    have eN : sp_N (lstore l F R) l = R.length := by
      unfold sp_N lstore
      rw [if_neg (by omega), if_neg (by omega), if_pos rfl, nI_clamp (by omega)]
    refine ⟨R.length, by rw [Rc]; exact Kc, by rw [Rc]; omega, by rw [Rc]; show h.1 < h'.1; omega, Or.inr ⟨by unfold lstore; rw [if_pos rfl], eN.symm, fun i hi => ?_⟩⟩
    rw [Rc]
    show mv_I h' h.1 i = _
    rw [g3 i hi, rows i hi]
    unfold sp_C
    rw [eF]
    unfold lstore
    rw [if_neg (by omega), if_neg (by omega), if_neg (by omega), if_neg (by omega), eb, if_pos (by omega), show 188 + b + i - (188 + b) = i by omega, nI_clamp (by have := ok i; omega)]
  have that : ∀ m, m < 2 → m ≠ l → cLx E h r F m → cLx E (mv_sR h' r (11 + l) h.1) r (lstore l F R) m := fun m hm ne z => by
    obtain ⟨L, z1, z2, z3, z4⟩ := z
    have eF : sp_F (lstore l F R) m = sp_F F m := by unfold sp_F; rw [lo _ (by omega) (by omega) (by omega) (by omega)]
    have eN : sp_N (lstore l F R) m = sp_N F m := by unfold sp_N; rw [lo _ (by omega) (by omega) (by omega) (by omega)]
    unfold cLx
    rw [Rn _ (by omega)]
    refine ⟨L, by rw [Kn _ (by omega)]; exact z1, z2, by show _ < h'.1; omega, ?_⟩
    rw [In _ (by omega), lo _ (by omega) (by omega) (by omega) (by omega), eN]
    rcases z4 with z4 | ⟨y1, y2, y3⟩
    · exact Or.inl z4
    · refine Or.inr ⟨y1, y2, fun i hi => ?_⟩
      rw [y3 i hi]
      unfold sp_C
      rw [eF]
      rcases o m hm ne with w | ⟨w1, w2⟩
      · rw [w] at y1; exact absurd y1 (by decide)
      · rw [old _ (by omega) (by omega)]
  refine ⟨c1, ?_, ?_, cXv_of (fun k c j m => ?_), ?_, ?_, fun a a1 a2 => ?_, by rw [In 52 (by omega)]; exact c8, by rw [In 52 (by omega)]; exact c9⟩
  · rw [mx_upR, if_neg (by omega), (g4 52 (by omega)).2.2.2]; exact c2
  · unfold cr_sh at c3 ⊢
    rw [Kn r (by omega), Kn (r + 1) (by omega), Kn (r + 2) (by omega), Kn (r + 3) (by omega), Kn (r + 4) (by omega), Kn (r + 5) (by omega), Kn (r + 6) (by omega), Kn (r + 7) (by omega), Kn (r + 8) (by omega), Kn (r + 9) (by omega), Rn 5 (by omega), Rn 6 (by omega), Rn 7 (by omega), Rn 8 (by omega), Rn 9 (by omega), Rn 10 (by omega), Rn 15 (by omega)]
    obtain ⟨d1, d2, d3, d4, d5, d6, d7, d8, d9, d10, d11⟩ := c3
    exact ⟨d1, d2, d3, d4, d5, d6, d7, d8, d9, d10, by show r + 9 < h'.1; omega⟩
  · have b := cmap_b m
    rw [In _ (by omega), lo _ (by omega) (by omega) (by omega) (by omega)]
    exact c4.at m
  · rcases (by omega : l = 0 ∨ l = 1) with z | z
    · subst z; exact this
    · exact that 0 (by omega) (by omega) c5
  · rcases (by omega : l = 1 ∨ l = 0) with z | z
    · subst z; exact this
    · exact that 1 (by omega) (by omega) c6
  · by_cases z : a = h.1
    · rw [z, Kc]
    · rw [Kn a z]; exact c7 a a1 (by have : a < h'.1 := a2; omega)
