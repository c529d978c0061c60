/-! Floating and weeks by the class; looking at a state. -/
theorem sp_sum_ge {A : Nat → Int32} {row s P : Nat} (hs : s < 2 ^ P) : ∀ i, P ≤ i → sp_sum A row s i = sp_sum A row s P
  | 0, h => by rw [show P = 0 by omega]
  | i + 1, h => by
    rcases (by omega : P = i + 1 ∨ P ≤ i) with q | q
    · rw [q]
    · have e3 : sp_sum A row s (i + 1) = sp_sum A row s i + cond (s.testBit i) (A (row + i)) 0 := rfl
      rw [e3, Nat.testBit_lt_two_pow (Nat.lt_of_lt_of_le hs (Nat.pow_le_pow_right (by omega) q)), sp_sum_ge hs i q]
      exact Int32.add_zero _
theorem sp_sum_ext {A A' : Nat → Int32} {row row' s : Nat} : ∀ i, (∀ p, p < i → s.testBit p = true → A' (row' + p) = A (row + p)) → sp_sum A' row' s i = sp_sum A row s i
  | 0, _ => rfl
  | i + 1, h => by
    have e3 : sp_sum A row s (i + 1) = sp_sum A row s i + cond (s.testBit i) (A (row + i)) 0 := rfl
    have e4 : sp_sum A' row' s (i + 1) = sp_sum A' row' s i + cond (s.testBit i) (A' (row' + i)) 0 := rfl
    rw [e3, e4, sp_sum_ext i (fun p hp => h p (by omega))]
    cases q : s.testBit i with
    | false => rfl
    | true => rw [h i (by omega) q]
theorem ct68 {E : mv_E} {D k n : Nat} {h : mv_H} {Q : mv_Q} {x : Nat} {x1 : Int32} (s : Nat) (hx : st_ad x) (hs : s < 2 ^ 31) (e1 : x1 = nI s) (H : Q (some (.int (sp_sum (mv_I h (x + 1)) 0 s 8))) h) : mv_VE E D k n 68 0 [some (.ref x), some (.int x1), none, none] [] h Q := by
  subst e1
  obtain ⟨s1, s2, s3⟩ := st_sh hx E h
  apply sg68_0
  refine mx_loop (P := fun i => mv_VE E D k n 68 4 [some (.ref x), some (.int (nI s)), some (.int (sp_sum (mv_I h (x + 1)) 0 s i)), some (.int (nI i))] [] h Q) 8 ?_ ?_
  · apply sg68_4
    exact mx_ltF 8 8 (Nat.le_refl _) H (by omega)
  · intro i hi ih
    have e : sp_sum (mv_I h (x + 1)) 0 s (i + 1) = sp_sum (mv_I h (x + 1)) 0 s i + cond (s.testBit i) (mv_I h (x + 1) (0 + i)) 0 := rfl
    rw [e, Nat.zero_add] at ih
    apply sg68_4
    rw [s1, s2, s3, nI_clamp (n := i) (by omega), nI_1]
    refine mx_ltT i 8 hi ?_ (by omega)
    refine mx_ifb (s.testBit i) (mx_bit0 hs (by omega)) (fun b => ?_) (fun b => ?_)
    · rw [b] at ih
      have : sp_sum (mv_I h (x + 1)) 0 s i + cond false (mv_I h (x + 1) i) 0 = sp_sum (mv_I h (x + 1)) 0 s i := Int32.add_zero _
      rw [this] at ih
      exact ih
    · rw [b] at ih
      exact mv_gdI rfl (mv_gdI (mx_inT i (by omega) (by omega)) ih)
theorem ct58 {E : mv_E} {D k n : Nat} {h : mv_H} {Q : mv_Q} {A : Nat → Int32} {x1 : Int32} (s : Nat) (se : se_at E h A) (ok : sp_ok A) (vb : sp_vb A) (hs : s < 2 ^ sp_P A) (hP : sp_P A ≠ 0) (e1 : x1 = nI s) (H : ∀ h', mx_fr mx_s4 h h' → Q (some (.int (nI (sp_float A s).toNat))) h') : mv_VE E (D + 2) k n 58 0 [some (.ref 87), some (.int x1)] [] h Q := by
  subst e1
  have h8 := ok.2.1
  have hp2 := mx_p2 h8
  have f1 : mx_fr mx_s4 h (mv_sI h 87 6 (pf305 (nI s))) := mx_fr.sI rfl
  have se1 := se.fr f1
  have nP : ¬ A 1 = 0 := by rw [ok.1]; exact nI_ne0 (by omega) (by omega)
  apply sg58_0
  refine ct68 s (Or.inr (Or.inr (Or.inr (Or.inl rfl)))) (by omega) rfl ⟨_, rfl, ?_⟩
  have eb : sp_sum (mv_I (mv_sI h 87 6 (pf305 (nI s))) (88 + 1)) 0 s 8 = sp_sum A 66 s (sp_P A) := by
    rw [sp_sum_ge hs 8 h8]
    exact sp_sum_ext _ (fun p hp _ => by rw [Nat.zero_add]; exact se.2.1.2 p hp)
  rw [eb]
  have f2 : ∀ v, mx_fr mx_s4 h (mv_sI (mv_sI h 87 6 (pf305 (nI s))) 87 10 v) := fun v => f1.tr (mx_fr.sI rfl)
  have f3 : ∀ v w, mx_fr mx_s4 h (mv_sI (mv_sI (mv_sI h 87 6 (pf305 (nI s))) 87 10 v) 87 11 w) := fun v w => (f2 v).tr (mx_fr.sI rfl)
  have f4 : ∀ v w z, mx_fr mx_s4 h (mv_sI (mv_sI (mv_sI (mv_sI h 87 6 (pf305 (nI s))) 87 10 v) 87 11 w) 87 12 z) := fun v w z => (f3 v w).tr (mx_fr.sI rfl)
  have s1 := se.1.1.2.1
  have hH := fun h' f => H h' f
  unfold sp_float at hH
  obtain ⟨L, L1, L2, L3, L4⟩ := cr_lawL se.1.2.2.2 ok.2.2.2.2
  obtain ⟨n93, n87⟩ := cr_law93 (l := 1) (by omega) se.1.1.1 se.1.2.2.2
  simp only [mx_KEsI, mx_REsI, mx_RsI]
  rw [s1]
  refine mv_gdI rfl ?_
  refine ct30 (se.fr (f2 _)).1 ok ⟨_, rfl, ?_⟩
  have s1' : mv_KE E (mv_sI (mv_sI h 87 6 (pf305 (nI s))) 87 10 (sp_sum A 66 s (sp_P A))) (mv_R (mv_sI (mv_sI h 87 6 (pf305 (nI s))) 87 10 (sp_sum A 66 s (sp_P A))) 87 0) = (3, 16) := s1
  have L1' : mv_KE E (mv_sI (mv_sI h 87 6 (pf305 (nI s))) 87 10 (sp_sum A 66 s (sp_P A))) (mv_RE E (mv_sI (mv_sI h 87 6 (pf305 (nI s))) 87 10 (sp_sum A 66 s (sp_P A))) (mv_R (mv_sI (mv_sI h 87 6 (pf305 (nI s))) 87 10 (sp_sum A 66 s (sp_P A))) 87 0) 12) = (20, L) := L1
  rw [s1', L1', mx_Iss]
  refine mv_gdI rfl (mv_gdI rfl ?_)
  refine mx_eq L 0 (fun z => ?_) (fun z => ?_) (by omega) (by omega)
  · have a4 := L3.mp z
    have hH := hH _ (f3 (sp_sum A 66 s (sp_P A)) (sp_sum A 9 (2 ^ sp_P A - 1) (sp_P A)))
    rw [if_pos (Or.inr a4)] at hH
    refine mx_if (fun q => ?_) (fun q => ?_)
    · rw [decide_eq_true q] at hH; exact hH
    · rw [decide_eq_false q] at hH; exact hH
  · have nz : ¬ A 4 = 0 := fun c => z (L3.mpr c)
    obtain ⟨L5, L6, L7⟩ := L4 nz
    subst L5
    refine mv_gdI rfl ?_
    refine ct31 s (se.fr (f3 _ _)).1 ok hs rfl ⟨_, rfl, ?_⟩
    simp only [mx_KEsI, mx_REsI, mx_RsI]
    rw [s1]
    refine mv_gdI rfl ?_
    refine ct54 1 (sp_N A 1) (sp_C A 1) (sp_wF A s) L1 n93 L2 ?_ L7 ?_ (fun j _ => sp_wF_sm h8 vb s j) (fun h' fr => ⟨_, rfl, mv_gdI (mx_b01 _) ?_⟩)
    · intro i hi
      rw [mx_InE n87, mx_InE n87, mx_InE n87, mx_InE n87]
      exact L6 i hi
    · intro j hj
      unfold sp_okw at hj
      simp only [Bool.or_eq_true, Bool.and_eq_true, decide_eq_true_eq] at hj
      rcases (by omega : j = 0 ∨ j = 1 ∨ j = 2 ∨ j = 3 ∨ j = 7) with rfl | rfl | rfl | rfl | rfl
      · exact mx_305 s (by omega)
      · exact se.2.1.1
      · rfl
      · rfl
      · rfl
    · have hH := hH h' ((f4 _ _ _).tr (mx_s934 fr))
      rw [if_neg (fun c => c.elim nP nz)] at hH
      exact hH
theorem mx_255 {s : Nat} (h : s < 256) : nI s &&& (255 : Int32) = nI s := by
  have := pk_andN (n := s) (by omega) (m := 255) 8 (by decide)
  rw [this, Nat.mod_eq_of_lt h]
theorem sp_float0 {A : Nat → Int32} (ok : sp_ok A) (hP : sp_P A = 0) : sp_float A 0 = true := by
  unfold sp_float
  have : A 1 = 0 := by rw [ok.1, hP]; rfl
  rw [if_pos (Or.inl this), hP]
  rfl
theorem se_at.up91 {E : mv_E} {h : mv_H} {A : Nat → Int32} (se : se_at E h A) {s : Nat} {x : Int32} (hx : x = nI (sp_float A s).toNat) : se_at E (mv_sI h 91 s x) A := by
  refine ⟨?_, ⟨se.2.1.1, se.2.1.2⟩, fun t ht => ?_⟩
  · exact se.1.fz (S := mx_s5) (h' := mv_sI h 91 s x) (mx_fr.sI rfl).z (fun a k => mx_s5r)
  · refine ⟨(se.2.2 t ht).1, ?_⟩
    rw [mx_upI]
    by_cases q : t = s
    · rw [if_pos ⟨rfl, q⟩, q]; exact Or.inr hx
    · rw [if_neg (fun c => q c.2)]; exact (se.2.2 t ht).2
theorem se_at.up90 {E : mv_E} {h : mv_H} {A : Nat → Int32} (se : se_at E h A) {s : Nat} {x : Int32} (hx : x = nI (sp_week A s)) : se_at E (mv_sI h 90 s x) A := by
  refine ⟨?_, ⟨se.2.1.1, se.2.1.2⟩, fun t ht => ?_⟩
  · exact se.1.fz (S := mx_s5) (h' := mv_sI h 90 s x) (mx_fr.sI rfl).z (fun a k => mx_s5r)
  · refine ⟨?_, (se.2.2 t ht).2⟩
    rw [mx_upI]
    by_cases q : t = s
    · rw [if_pos ⟨rfl, q⟩, q]; exact Or.inr hx
    · rw [if_neg (fun c => q c.2)]; exact (se.2.2 t ht).1
theorem mx_m1n {j : Nat} (h : j < 2 ^ 31) : ¬ nI j = -1 := by
  intro c
  have e : (nI j).toInt = (-1 : Int32).toInt := by rw [c]
  rw [nI_toInt h, show (-1 : Int32).toInt = -1 by decide] at e
  omega
theorem ct57 {E : mv_E} {D k n : Nat} {h : mv_H} {Q : mv_Q} {A : Nat → Int32} {x1 : Int32} (s : Nat) (se : se_at E h A) (ok : sp_ok A) (vb : sp_vb A) (hs : s < 2 ^ sp_P A) (e1 : x1 = nI s) (H : ∀ h', mx_fr mx_s5 h h' → se_at E h' A → Q (some (.int (nI (sp_float A s).toNat))) h') : mv_VE E (D + 3) k n 57 0 [some (.ref 87), some (.int x1), none] [] h Q := by
  subst e1
  have h8 := ok.2.1
  have hp2 := mx_p2 h8
  have hb1 := mx_tn (sp_float A s)
  apply sg57_0
  rw [se.1.1.2.1, se.1.2.1.1, ok.1, mx_255 (by omega), nI_clamp (n := s) (by omega)]
  refine mv_gdI rfl ?_
  refine mx_eq (sp_P A) 0 (fun z => ?_) (fun z => ?_) (by omega) (by omega)
  · rw [z] at hs
    have hs0 : s = 0 := by omega
    have hH := H h mx_fr.rf se
    rw [hs0, sp_float0 ok z] at hH
    exact hH
  · have i8 : (true && mv_in (nI s) 256) = true := mx_inT s (by omega) (by omega)
    have ca := (se.2.2 s hs).2
    refine mv_gdI i8 (mx_if (fun q => ?_) (fun q => ?_))
    · refine ct58 s se ok vb hs z rfl (fun h1 fr => ⟨_, rfl, ?_⟩)
      have se1 := se.fr fr
      have f1 := mx_s45 fr
      cases b : sp_float A s with
      | false =>
        rw [if_pos (by rfl)]
        refine mv_gdI i8 (mv_gdI i8 ?_)
        rw [mx_Iss, if_neg (by decide)]
        have hH := H (mv_sI h1 91 s 0) (f1.tr (mx_fr.sI rfl)) (se1.up91 (by rw [b]; rfl))
        rw [b] at hH; exact hH
      | true =>
        rw [if_neg (by decide)]
        refine mv_gdI i8 (mv_gdI i8 ?_)
        rw [mx_Iss, if_pos rfl]
        have hH := H (mv_sI h1 91 s 1) (f1.tr (mx_fr.sI rfl)) (se1.up91 (by rw [b]; rfl))
        rw [b] at hH; exact hH
    · rcases ca with ca | ca
      · exact absurd ca q
      · have hH := H h mx_fr.rf se
        refine mv_gdI i8 ?_
        rw [ca]
        cases b : sp_float A s with
        | false => rw [if_neg (by decide)]; rw [b] at hH; exact hH
        | true => rw [if_pos (by rfl)]; rw [b] at hH; exact hH
theorem sp_gone_bit (A : Nat → Int32) (s j : Nat) : ∀ i, (sp_gone A s i).testBit j = (decide (j < i) && sp_lets A s j)
  | 0 => by
    show (0 : Nat).testBit j = _
    rw [Nat.zero_testBit, decide_eq_false (by omega)]; rfl
  | i + 1 => by
    have e : sp_gone A s (i + 1) = sp_gone A s i ||| cond (sp_lets A s i) (2 ^ i) 0 := rfl
    rw [e, Nat.testBit_or, sp_gone_bit A s j i]
    rcases (by omega : j = i ∨ j < i ∨ i < j) with q | q | q
    · subst q
      cases sp_lets A s j with
      | false => simp
      | true => simp [Nat.testBit_two_pow]
    · rw [decide_eq_true q, decide_eq_true (show j < i + 1 by omega)]
      cases sp_lets A s i with
      | false => simp
      | true => simp [Nat.testBit_two_pow, show ¬ i = j by omega]
    · rw [decide_eq_false (show ¬ j < i by omega), decide_eq_false (show ¬ j < i + 1 by omega)]
      cases sp_lets A s i with
      | false => simp
      | true => simp [Nat.testBit_two_pow, show ¬ i = j by omega]
theorem sp_week_bit (A : Nat → Int32) (s j : Nat) : (sp_week A s).testBit j = (s.testBit j && !(decide (j < sp_P A) && sp_lets A s j)) := by
  unfold sp_week
  rw [mx_wo_bit, sp_gone_bit]
theorem sp_week_sub (A : Nat → Int32) (s : Nat) : sp_sub (sp_week A s) s := by
  intro j hj
  rw [sp_week_bit, Bool.and_eq_true] at hj
  exact hj.1
/-- who is left, as the class lets them go one by one -/
def cr_lft (A : Nat → Int32) (s : Nat) : Nat → Nat := mx_fold (fun p a => cond (sp_lets A s p) (mx_wo a (2 ^ p)) a) s
theorem cr_lft_bit (A : Nat → Int32) (s j : Nat) : ∀ i, (cr_lft A s i).testBit j = (s.testBit j && !(decide (j < i) && sp_lets A s j))
  | 0 => by
    show s.testBit j = _
    rw [decide_eq_false (by omega)]; simp
  | i + 1 => by
    have e : cr_lft A s (i + 1) = cond (sp_lets A s i) (mx_wo (cr_lft A s i) (2 ^ i)) (cr_lft A s i) := rfl
    have ih := cr_lft_bit A s j i
    rw [e]
    rcases (by omega : j = i ∨ j < i ∨ i < j) with q | q | q
    · subst q
      rw [decide_eq_false (show ¬ j < j by omega)] at ih
      rw [decide_eq_true (show j < j + 1 by omega)]
      cases sp_lets A s j with
      | false => simpa using ih
      | true => rw [cond_true, mx_wo_bit, ih, Nat.testBit_two_pow]; simp
    · rw [decide_eq_true q] at ih
      rw [decide_eq_true (show j < i + 1 by omega)]
      cases sp_lets A s i with
      | false => exact ih
      | true => rw [cond_true, mx_wo_bit, ih, Nat.testBit_two_pow]; simp [show ¬ i = j by omega]
    · rw [decide_eq_false (show ¬ j < i by omega)] at ih
      rw [decide_eq_false (show ¬ j < i + 1 by omega)]
      cases sp_lets A s i with
      | false => exact ih
      | true => rw [cond_true, mx_wo_bit, ih, Nat.testBit_two_pow]; simp [show ¬ i = j by omega]
theorem cr_lft_eq (A : Nat → Int32) (s : Nat) : cr_lft A s (sp_P A) = sp_week A s := by
  apply Nat.eq_of_testBit_eq
  intro j
  rw [cr_lft_bit, sp_week_bit]
theorem ct59 {E : mv_E} {D k n : Nat} {h : mv_H} {Q : mv_Q} {A : Nat → Int32} {x1 : Int32} (s : Nat) (se : se_at E h A) (ok : sp_ok A) (vb : sp_vb A) (hs : s < 2 ^ sp_P A) (e1 : x1 = nI s) (H : ∀ h', mx_fr mx_s5 h h' → se_at E h' A → Q (some (.int (nI (sp_week A s)))) h') : mv_VE E (D + 3) k n 59 0 [some (.ref 87), some (.int x1), none, none, none] [] h Q := by
  subst e1
  have h8 := ok.2.1
  have hp2 := mx_p2 h8
  have i8 : (true && mv_in (nI s) 256) = true := mx_inT s (by omega) (by omega)
  apply sg59_0
  rw [mx_255 (by omega), nI_clamp (n := s) (by omega)]
  refine mv_gdI i8 (mx_if (fun q => ?_) (fun q => ?_))
  · refine mx_loop (P := fun i => ∀ h', mx_fr mx_s4 h h' → mv_VE E (D + 3) k n 59 21 [some (.ref 87), none, some (.int (nI s)), some (.int (nI (cr_lft A s i))), some (.int (nI i))] [] h' Q) (sp_P A) ?_ ?_ h mx_fr.rf
    · intro h' fr
      have se1 := se.fr fr
      apply sg59_21
      rw [se1.1.1.2.1, se1.1.2.1.1, ok.1, nI_clamp (n := s) (by omega), cr_lft_eq]
      refine mv_gdI rfl ?_
      refine mx_ltF (sp_P A) (sp_P A) (Nat.le_refl _) ?_ (by omega)
      refine mv_gdI i8 (mv_gdI i8 ?_)
      rw [mx_Iss]
      exact H _ ((mx_s45 fr).tr (mx_fr.sI rfl)) (se1.up90 rfl)
    · intro i hi ih h' fr
      have se1 := se.fr fr
      apply sg59_21
      rw [se1.1.1.2.1, se1.1.2.1.1, ok.1, nI_1, mx_1shl (by omega), mx_andn]
      refine mv_gdI rfl ?_
      refine mx_ltT i (sp_P A) hi ?_ (by omega)
      refine ct53 i s se1 ok vb hs hi rfl rfl (fun h2 fr2 => ⟨_, rfl, ?_⟩)
      have e : cr_lft A s (i + 1) = cond (sp_lets A s i) (mx_wo (cr_lft A s i) (2 ^ i)) (cr_lft A s i) := rfl
      have ih2 := ih h2 (fr.tr fr2)
      rw [e] at ih2
      cases b : sp_lets A s i with
      | false => rw [if_pos (by rfl)]; rw [b] at ih2; exact ih2
      | true => rw [if_neg (by decide)]; rw [b] at ih2; exact ih2
  · rcases (se.2.2 s hs).1 with ca | ca
    · exact absurd ca q
    · refine mv_gdI i8 ?_
      rw [ca]
      exact H h mx_fr.rf se
