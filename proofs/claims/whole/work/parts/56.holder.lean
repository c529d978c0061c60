/-! Call: holder. -/
def v_holder (V : vw) (x y : Int32) : Int32 := cond (pn (vA V) x) (if y = 0 then nI ((sp_hold (vA V)).testBit x.toNatClampNeg).toNat else if y = 1 then vA V (66 + x.toNatClampNeg) else if y = 2 then vA V (9 + x.toNatClampNeg) else if y = 3 then vA V (17 + x.toNatClampNeg) else if y = 4 then vA V (25 + x.toNatClampNeg) else if y = 5 then vA V (33 + x.toNatClampNeg) else if y = 10 then vA V (41 + 3 * x.toNatClampNeg + 0) else if y = 11 then vA V (41 + 3 * x.toNatClampNeg + 1) else if y = 12 then vA V (41 + 3 * x.toNatClampNeg + 2) else -2) (-2)
theorem cc103 {E : mv_E} {D k n : Nat} {h : mv_H} {Q : mv_Q} {V : vw} {x y : Int32} (i : InvC E h V) (m : InvM V) (H : ∀ h', InvC E h' V → fCl h h' → Q (some (.int (v_holder V x y))) h') : mv_VE E (D + 1) k n 103 0 [some (.ref 50), some (.int x), some (.int y)] [] h Q := by
  have hH := H h i fCl.rf
  have p8 := m.p8
  have p2 := m.p2
  have hh := m.1.1.hold
  have cr := i.1.1.1.1
  obtain ⟨⟨-, K, -, ⟨w1, w2⟩, ⟨w3, w4⟩, -, ⟨w5, w6⟩, ⟨w7, w8⟩, -⟩, ⟨-, -, -, u1, u2, u3, u4, -⟩, -⟩ := i.1.1.1.1
  have nw := InvC.now i.1
  apply sg103_0
  unfold v_holder at hH
  refine cc104 i.1 m ⟨_, rfl, mx_ifB _ (fun z => ?_) (fun z => ?_)⟩
  · rw [z] at hH; exact hH
  rw [z, cond_true] at hH
  obtain ⟨p, hp, rfl⟩ := pnT m.ok z
  have i8 : (true && mv_in (nI p) 8) = true := mx_inT p (by omega) (by omega)
  have eh : mv_I h 81 0 = nI (sp_hold (vA V)) := nw.1.trans hh.1
  have eb : mv_I h 82 p = vA V (66 + p) := by
    have := nw.2.2.2 p (by omega)
    unfold sp_was at this
    rw [show 65 + (1 + p) = 66 + p by omega] at this
    exact this
  rw [nI_clamp (n := p) (by omega)] at hH
  rw [K, w1, w2, w3, w4, w5, w6, w7, w8, nI_clamp (n := p) (by omega), eh, eb, u1 p (by omega), u2 p (by omega), u3 p (by omega), u4 p (by omega), mx_bit (by omega) (by omega)]
  refine mx_if (fun q => ?_) (fun q => ?_)
  · rw [if_pos q] at hH; exact hH
  rw [if_neg q] at hH
  refine mx_if (fun q => ?_) (fun q => ?_)
  · rw [if_pos q] at hH; exact mv_gdI i8 hH
  rw [if_neg q] at hH
  refine mx_if (fun q => ?_) (fun q => ?_)
  · rw [if_pos q] at hH; exact mv_gdI rfl (mv_gdI i8 hH)
  rw [if_neg q] at hH
  refine mx_if (fun q => ?_) (fun q => ?_)
  · rw [if_pos q] at hH; exact mv_gdI rfl (mv_gdI i8 hH)
  rw [if_neg q] at hH
  refine mx_if (fun q => ?_) (fun q => ?_)
  · rw [if_pos q] at hH; exact mv_gdI rfl (mv_gdI i8 hH)
  rw [if_neg q] at hH
  refine mx_if (fun q => ?_) (fun q => ?_)
  · rw [if_pos q] at hH; exact mv_gdI rfl (mv_gdI i8 hH)
  rw [if_neg q] at hH
  have no : ∀ {c : Int32}, y = c → c ≠ 10 → c ≠ 11 → c ≠ 12 → Q (some (.int (-2))) h := by
    intro c e h1 h2 h3
    rw [if_neg (by rw [e]; exact h1), if_neg (by rw [e]; exact h2), if_neg (by rw [e]; exact h3)] at hH
    exact hH
  refine mx_if (fun q => no q (by decide) (by decide) (by decide)) (fun q => ?_)
  refine mx_if (fun q => no q (by decide) (by decide) (by decide)) (fun q => ?_)
  refine mx_if (fun q => no q (by decide) (by decide) (by decide)) (fun q => ?_)
  refine mx_if (fun q => no q (by decide) (by decide) (by decide)) (fun q => ?_)
  refine mx_if (fun q => ?_) (fun q => ?_)
  · rw [if_pos q] at hH
    exact mv_gdI rfl (ct28 p 0 cr (by omega) (by omega) rfl (by rw [q]; decide) ⟨_, rfl, hH⟩)
  rw [if_neg q] at hH
  refine mx_if (fun q => ?_) (fun q => ?_)
  · rw [if_pos q] at hH
    exact mv_gdI rfl (ct28 p 1 cr (by omega) (by omega) rfl (by rw [q]; decide) ⟨_, rfl, hH⟩)
  rw [if_neg q] at hH
  refine mx_if (fun q => ?_) (fun q => ?_)
  · rw [if_pos q] at hH
    exact mv_gdI rfl (ct28 p 2 cr (by omega) (by omega) rfl (by rw [q]; decide) ⟨_, rfl, hH⟩)
  rw [if_neg q] at hH
  exact hH
theorem mx_w1012 (y : Int32) : pf182 y.toInt64 10 12 = true ↔ (y = 10 ∨ y = 11 ∨ y = 12) := by
  have w := mx_wi (x := y) (L := 10) (H := 12) 10 12 rfl rfl
  rw [w]
  simp only [Bool.and_eq_true, Bool.not_eq_true', decide_eq_false_iff_not]
  constructor
  · rintro ⟨a, b⟩
    have h0 : ¬ y < 0 := fun c => a (by
      rw [Int32.lt_iff_toInt_lt] at c ⊢
      have e1 : (0 : Int32).toInt = 0 := rfl
      have e2 : (10 : Int32).toInt = 10 := rfl
      omega)
    obtain ⟨j, hj, rfl⟩ := nI_of h0
    have a' : ¬ j < 10 := fun c => a (show nI j < nI 10 from (nI_ltI hj (by omega)).mpr c)
    have b' : ¬ 12 < j := fun c => b (show nI 12 < nI j from (nI_ltI (by omega) hj).mpr c)
    rcases (by omega : j = 10 ∨ j = 11 ∨ j = 12) with rfl | rfl | rfl
    · exact Or.inl rfl
    · exact Or.inr (Or.inl rfl)
    · exact Or.inr (Or.inr rfl)
  · rintro (rfl | rfl | rfl) <;> decide
theorem cm209 {E : mv_E} {D k n : Nat} {h : mv_H} {Q : mv_Q} {V : vw} {x y : Int32} (e : vw_of h = V) (m : InvM V) (H : ∀ h', fM V h h' → Q (some (.int (v_holder V x y))) h') : mv_VE E (D + 2) k n 209 0 [some (.ref 148), some (.int x), some (.int y)] [] h Q := by
  have f0 := fM.of e
  have hH := H _ f0
  have p8 := m.p8
  have p2 := m.p2
  have hh := m.1.1.hold
  have eA : mv_I h 149 = vA V := by rw [← e]; rfl
  have e1 : pf210 (mv_sI h 148 0 0) x.toInt64 = pn (vA V) x := by rw [pn210 (by rw [f0.A]; exact m.ok), f0.A]
  apply sg209_0
  unfold v_holder at hH
  refine mx_cdb _ e1 (fun z => ?_) (fun z => ?_)
  · rw [z, cond_true] at hH
    obtain ⟨p, hp, rfl⟩ := pnT m.ok z
    rw [nI_clamp (n := p) (by omega)] at hH
    rw [eA, hh.1, mx_bit (by omega) (by omega), show (3 : Int32) * nI p = nI (3 * p) from pk_mul 3 p, show (41 : Int32) + nI (3 * p) = nI (41 + 3 * p) from nI_add 41 _, show (66 : Int32) + nI p = nI (66 + p) from nI_add 66 p, show (9 : Int32) + nI p = nI (9 + p) from nI_add 9 p, show (17 : Int32) + nI p = nI (17 + p) from nI_add 17 p, show (25 : Int32) + nI p = nI (25 + p) from nI_add 25 p, show (33 : Int32) + nI p = nI (33 + p) from nI_add 33 p, nI_clamp (n := 66 + p) (by omega), nI_clamp (n := 9 + p) (by omega), nI_clamp (n := 17 + p) (by omega), nI_clamp (n := 25 + p) (by omega), nI_clamp (n := 33 + p) (by omega)]
    refine mx_cd (fun c => ?_) (fun c => ?_)
    · have lk : ∀ d, d < 3 → y = nI (10 + d) → Q (some (.int (vA V (41 + 3 * p + d)))) (mv_sI h 148 0 0) → mv_gd (true && mv_in (nI (41 + 3 * p) + y - 10) 3264) (Q (some (.int (vA V (nI (41 + 3 * p) + y - 10).toNatClampNeg))) (mv_sI h 148 0 0)) := by
        intro d hd ey q
        rw [ey, nI_add, show nI (41 + 3 * p + (10 + d)) - (10 : Int32) = nI (41 + 3 * p + (10 + d) - 10) from pk_sub (b := 10) (by omega), show 41 + 3 * p + (10 + d) - 10 = 41 + 3 * p + d by omega, nI_clamp (by omega)]
        exact mv_gdI (mx_inT (41 + 3 * p + d) (by omega) (by omega)) q
      rcases (mx_w1012 y).mp c with rfl | rfl | rfl
      · exact lk 0 (by omega) rfl hH
      · exact lk 1 (by omega) rfl hH
      · exact lk 2 (by omega) rfl hH
    · have c' : ¬ (y = 10 ∨ y = 11 ∨ y = 12) := fun d => by rw [(mx_w1012 y).mpr d] at c; cases c
      have g : ∀ k, k < 3264 → (true && mv_in (nI k) 3264) = true := fun k hk => mx_inT k hk (by omega)
      rw [if_neg (fun d => c' (Or.inl d)), if_neg (fun d => c' (Or.inr (Or.inl d))), if_neg (fun d => c' (Or.inr (Or.inr d)))] at hH
      refine mx_if (fun q => ?_) (fun q => ?_)
      · rw [if_pos q] at hH; exact hH
      rw [if_neg q] at hH
      refine mx_if (fun q => ?_) (fun q => ?_)
      · rw [if_pos q] at hH; exact mv_gdI (g _ (by omega)) hH
      rw [if_neg q] at hH
      refine mx_if (fun q => ?_) (fun q => ?_)
      · rw [if_pos q] at hH; exact mv_gdI (g _ (by omega)) hH
      rw [if_neg q] at hH
      refine mx_if (fun q => ?_) (fun q => ?_)
      · rw [if_pos q] at hH; exact mv_gdI (g _ (by omega)) hH
      rw [if_neg q] at hH
      refine mx_if (fun q => ?_) (fun q => ?_)
      · rw [if_pos q] at hH; exact mv_gdI (g _ (by omega)) hH
      rw [if_neg q] at hH
      refine mx_if (fun q => ?_) (fun q => ?_)
      · rw [if_pos q] at hH; exact mv_gdI (g _ (by omega)) hH
      rw [if_neg q] at hH
      exact hH
  · rw [z] at hH; exact hH
