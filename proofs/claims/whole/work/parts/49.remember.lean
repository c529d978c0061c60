/-! Remembering. -/
theorem sp_note_d {A w : Nat → Int32} (hd : sp_d A ≤ 10) : sp_note A w 76 = nI (sp_d (sp_note A w)) ∧ sp_d (sp_note A w) = (if sp_d A = 10 then 10 else sp_d A + 1) := by
  have e : sp_note A w 76 = nI (if sp_d A = 10 then 10 else sp_d A + 1) := by
    unfold sp_note
    by_cases q : sp_d A = 10
    · rw [if_pos q, if_pos q, if_pos rfl]
    · rw [if_neg q, if_neg q, if_pos rfl]
  have e2 : sp_d (sp_note A w) = (if sp_d A = 10 then 10 else sp_d A + 1) := by
    show (sp_note A w 76).toNatClampNeg = _
    rw [e, nI_clamp (by split <;> omega)]
  exact ⟨by rw [e2]; exact e, e2⟩
theorem sp_note_65 {A w : Nat → Int32} (hd : sp_d A ≤ 10) : ∀ k, k < 76 ∨ 187 ≤ k → sp_note A w k = A k := by
  intro k hk
  unfold sp_note
  by_cases q : sp_d A = 10
  · rw [if_pos q, if_neg (by omega), if_neg (by omega), if_neg (by omega)]
  · rw [if_neg q, if_neg (by omega), if_neg (by omega)]
/-- what was noted: the last is the new one, the others as before or moved up -/
theorem sp_note_old {A w : Nat → Int32} (hd : sp_d A ≤ 10) (q : sp_d A ≠ 10) (i j : Nat) (hi : i < sp_d A) (hj : j < 11) : sp_note A w (77 + 11 * i + j) = A (77 + 11 * i + j) := by
  unfold sp_note
  rw [if_neg q, if_neg (by omega), if_neg (by omega)]
theorem sp_note_new {A w : Nat → Int32} (hd : sp_d A ≤ 10) (q : sp_d A ≠ 10) (j : Nat) (hj : j < 11) : sp_note A w (77 + 11 * sp_d A + j) = w j := by
  unfold sp_note
  rw [if_neg q, if_neg (by omega), if_pos (by omega)]
  congr 1
  omega
theorem sp_note_old' {A w : Nat → Int32} (q : sp_d A = 10) (i j : Nat) (hi : i < 9) (hj : j < 11) : sp_note A w (77 + 11 * i + j) = A (77 + 11 * (i + 1) + j) := by
  unfold sp_note
  rw [if_pos q, if_neg (by omega), if_pos (by omega)]
  congr 1
  omega
theorem sp_note_new' {A w : Nat → Int32} (q : sp_d A = 10) (j : Nat) (hj : j < 11) : sp_note A w (77 + 11 * 9 + j) = w j := by
  unfold sp_note
  rw [if_pos q, if_neg (by omega), if_neg (by omega), if_pos (by omega), show 77 + 11 * 9 + j - 176 = j by omega]
theorem i_st.cg {h : mv_H} {x : Nat} {f g : Nat → Int32} (e : ∀ j, j < 11 → g j = f j) (i : i_st h x f) : i_st h x g := ⟨i.1.trans (e 0 (by omega)).symm, i.2.1.trans (e 9 (by omega)).symm, i.2.2.1.trans (e 10 (by omega)).symm, fun p hp => (i.2.2.2 p hp).trans (e (1 + p) (by omega)).symm⟩
theorem m_st.cg {P : Nat} (hP : P ≤ 8) {f g : Nat → Int32} (e : ∀ j, j < 11 → g j = f j) (i : m_st P f) : m_st P g := by
  unfold m_st
  rw [e 0 (by omega), e 9 (by omega)]
  exact ⟨i.1, i.2.1, fun p hp => by rw [e (1 + p) (by omega)]; exact i.2.2.1 p hp, i.2.2.2⟩
theorem sp_note_mp {A w : Nat → Int32} (m : m_past A) (hP : sp_P A ≤ 8) (hw : m_st (sp_P A) w) : m_past (sp_note A w) := by
  obtain ⟨m1, m2, m3⟩ := m
  obtain ⟨d1, d2⟩ := sp_note_d (w := w) m2
  have eP : sp_P (sp_note A w) = sp_P A := by unfold sp_P; rw [sp_note_65 m2 1 (by omega)]
  refine ⟨d1, by rw [d2]; split <;> omega, fun i hi => ?_⟩
  rw [d2] at hi
  rw [eP]
  by_cases q : sp_d A = 10
  · rw [if_pos q] at hi
    rcases (by omega : i < 9 ∨ i = 9) with c | c
    · exact (m3 (i + 1) (by omega)).cg hP (fun j hj => sp_note_old' q i j c hj)
    · subst c; exact hw.cg hP (fun j hj => sp_note_new' q j hj)
  · rw [if_neg q] at hi
    rcases (by omega : i < sp_d A ∨ i = sp_d A) with c | c
    · exact (m3 i c).cg hP (fun j hj => sp_note_old m2 q i j c hj)
    · subst c; exact hw.cg hP (fun j hj => sp_note_new m2 q j hj)
theorem ct20 {E : mv_E} {D k n : Nat} {h : mv_H} {Q : mv_Q} {x : Nat} {A w : Nat → Int32} (ip : i_past h A) (ma : A 76 = nI (sp_d A)) (md : sp_d A ≤ 10) (ax : x = 81 ∨ x = 83) (hx : i_st h x w) (H : ∀ h', mx_fz mx_sP h h' → i_past h' (sp_note A w) → Q none h') : mv_VE E (D + 2) k n 20 0 [some (.ref 109), some (.ref x)] [] h Q := by
  obtain ⟨p1, p2, p3, p4⟩ := ip
  rw [ma] at p1
  obtain ⟨d1, d2⟩ := sp_note_d (A := A) (w := w) md
  apply sg20_0
  by_cases q : sp_d A = 10
  · rw [p1]
    refine mx_ltF (sp_d A) 10 (by omega) ?_ (by omega)
    apply sg21_0
    have key : ∀ i, 1 ≤ i → i ≤ 10 → ∀ h1, mx_fz mx_sP h h1 → mv_I h1 = mv_I h → (∀ j, j < 10 → mv_R h1 110 j = if j + 1 < i then mv_R h 110 (j + 1) else mv_R h 110 j) → mv_VE E (D + 1) 0 0 21 9 [some (.ref 109), some (.ref (mv_R h 110 0)), some (.int (nI i))] [] h1 (fun v h2 => v = none ∧ mv_gd (true && true && mv_in (mv_I h2 109 1) 10) (mv_gd (Nat.beq (mv_KE E h2 (mv_R h2 110 (mv_I h2 109 1).toNatClampNeg)).1 6) (mv_VE E (D + 1) 0 0 67 0 [some (.ref (mv_R h2 110 (mv_I h2 109 1).toNatClampNeg)), some (.ref x)] [] h2 (fun v h3 => v = none ∧ Q none (mv_sI h3 109 1 ((mv_I h3 109 1) + 1)))))) := by
      intro i h1i hi10
      refine mx_loopI (P := fun i => ∀ h1, mx_fz mx_sP h h1 → mv_I h1 = mv_I h → (∀ j, j < 10 → mv_R h1 110 j = if j + 1 < i then mv_R h 110 (j + 1) else mv_R h 110 j) → mv_VE E (D + 1) 0 0 21 9 [some (.ref 109), some (.ref (mv_R h 110 0)), some (.int (nI i))] [] h1 (fun v h2 => v = none ∧ mv_gd (true && true && mv_in (mv_I h2 109 1) 10) (mv_gd (Nat.beq (mv_KE E h2 (mv_R h2 110 (mv_I h2 109 1).toNatClampNeg)).1 6) (mv_VE E (D + 1) 0 0 67 0 [some (.ref (mv_R h2 110 (mv_I h2 109 1).toNatClampNeg)), some (.ref x)] [] h2 (fun v h3 => v = none ∧ Q none (mv_sI h3 109 1 ((mv_I h3 109 1) + 1))))))) i 10 hi10 ?_ ?_
      · intro h1 f1 eI eR
        obtain ⟨j0, hj0, ej0⟩ := p2 0 (by omega)
        apply sg21_9
        refine mx_ltF 10 10 (Nat.le_refl _) ?_ (by omega)
        rw [show nI 10 - (1 : Int32) = nI 9 from nI_pred 9, nI_clamp (n := 9) (by omega), ej0, (st_sh (st_ad_p hj0) E h1).1]
        refine mv_gdI (by rw [mx_in 9 (by omega) (by omega)]; rfl) ⟨rfl, ?_⟩
        have eR2 : ∀ j, j < 10 → mv_R (mv_sI (mv_sR h1 110 9 (111 + 2 * j0)) 109 1 (nI 9)) 110 j = if j < 9 then mv_R h 110 (j + 1) else mv_R h 110 0 := by
          intro j hj
          rw [mx_RsI, mx_upR]
          by_cases c : j = 9
          · rw [if_pos ⟨rfl, c⟩, if_neg (by omega), ej0]
          · rw [if_neg (fun d => c d.2), if_pos (by omega), eR j hj, if_pos (by omega)]
        have f2 : mx_fz mx_sP h (mv_sI (mv_sR h1 110 9 (111 + 2 * j0)) 109 1 (nI 9)) := f1.tr ((mx_fz.sR (mx_sPt (by omega) (by omega))).tr (mx_fr.sI (mx_sPt (by omega) (by omega))).z)
        have eI2 : ∀ a, a ≠ 109 → mv_I (mv_sI (mv_sR h1 110 9 (111 + 2 * j0)) 109 1 (nI 9)) a = mv_I h a := fun a ha => by
          rw [← eI]; exact funext fun k => mx_InE ha
        have eI3 : mv_I (mv_sI (mv_sR h1 110 9 (111 + 2 * j0)) 109 1 (nI 9)) 109 1 = nI 9 := mx_Iss
        generalize mv_sI (mv_sR h1 110 9 (111 + 2 * j0)) 109 1 (nI 9) = h2 at eR2 f2 eI2 eI3
        refine ct20a (k := 0) (n := 0) (w := w) (A := sp_note A w) 9 (by omega) eI3 (fun i hi => ?_) (fun i j hi hj e => ?_) (fun i hi => ?_) ax ?_ (fun h3 f3 g1 g2 g3 g4 => H h3 (f2.tr f3) ?_)
        · rw [eR2 i hi]
          by_cases c : i < 9
          · rw [if_pos c]; exact p2 (i + 1) (by omega)
          · rw [if_neg c]; exact p2 0 (by omega)
        · rw [eR2 i hi, eR2 j hj] at e
          by_cases c : i < 9
          · by_cases c2 : j < 9
            · rw [if_pos c, if_pos c2] at e
              have := p3 _ _ (by omega) (by omega) e
              omega
            · rw [if_pos c, if_neg c2] at e
              have := p3 _ _ (by omega) (by omega) e
              omega
          · by_cases c2 : j < 9
            · rw [if_neg c, if_pos c2] at e
              have := p3 _ _ (by omega) (by omega) e
              omega
            · omega
        · rw [eR2 i (by omega), if_pos hi]
          obtain ⟨jj, hjj, ejj⟩ := p2 (i + 1) (by omega)
          have old := p4 (i + 1) (by omega) (by omega)
          rw [ejj] at old ⊢
          have o2 : i_st h2 (111 + 2 * jj) (fun j => A (77 + 11 * (i + 1) + j)) := by
            unfold i_st
            rw [eI2 _ (by omega), eI2 _ (by omega)]
            exact old
          exact o2.cg (fun j hj => sp_note_old' q i j hi hj)
        · unfold i_st
          rw [eI2 _ (by omega), eI2 _ (by omega)]
          exact hx
        · refine ⟨?_, ?_, ?_, ?_⟩
          · rw [g1, d1, d2, if_pos q]
          · intro i hi
            rw [g2, eR2 i hi]
            by_cases c : i < 9
            · rw [if_pos c]; exact p2 (i + 1) (by omega)
            · rw [if_neg c]; exact p2 0 (by omega)
          · intro i j hi hj e
            rw [g2, eR2 i hi, eR2 j hj] at e
            by_cases c : i < 9
            · by_cases c2 : j < 9
              · rw [if_pos c, if_pos c2] at e
                have := p3 _ _ (by omega) (by omega) e
                omega
              · rw [if_pos c, if_neg c2] at e
                have := p3 _ _ (by omega) (by omega) e
                omega
            · by_cases c2 : j < 9
              · rw [if_neg c, if_pos c2] at e
                have := p3 _ _ (by omega) (by omega) e
                omega
              · omega
          · intro i hi hi2
            rw [g2]
            rcases (by omega : i < 9 ∨ i = 9) with c | c
            · exact g3 i c
            · subst c; exact g4.cg (fun j hj => sp_note_new' q j hj)
      · intro i hi0 hi ih h1 f1 eI eR
        obtain ⟨ji, hji, eji⟩ := p2 i (by omega)
        have eRi : mv_R h1 110 i = 111 + 2 * ji := by rw [eR i (by omega), if_neg (by omega), eji]
        apply sg21_9
        rw [show nI i - (1 : Int32) = nI (i - 1) from pk_sub (b := 1) (by omega), nI_clamp (n := i) (by omega), nI_clamp (n := i - 1) (by omega), eRi, (st_sh (st_ad_p hji) E h1).1, nI_1]
        refine mx_ltT i 10 (by omega) (mv_gdI (mx_inT i (by omega) (by omega)) (mv_gdI (by rw [mx_in (i - 1) (by omega) (by omega)]; rfl) ?_)) (by omega)
        refine ih _ (f1.tr (mx_fz.sR (mx_sPt (by omega) (by omega)))) eI (fun j hj => ?_)
        rw [mx_upR]
        by_cases c : j = i - 1
        · rw [if_pos ⟨rfl, c⟩, if_pos (by omega), c, show i - 1 + 1 = i by omega, eji]
        · rw [if_neg (fun d => c d.2), eR j hj]
          by_cases c2 : j + 1 < i
          · rw [if_pos c2, if_pos (by omega)]
          · rw [if_neg c2, if_neg (by omega)]
    exact key 1 (by omega) (by omega) h mx_fz.rf rfl (fun j hj => by rw [if_neg (by omega)])
  · rw [if_pos (by rw [p1]; exact nI_lt (by omega) (by omega))]
    refine ct20a (k := 0) (n := 0) (w := w) (A := A) (sp_d A) (by omega) p1 p2 p3 (fun i hi => p4 i (by omega) hi) ax hx (fun h' f g1 g2 g3 g4 => H h' f ⟨?_, ?_, ?_, ?_⟩)
    · rw [g1, d1, d2, if_neg q]
    · rw [g2]; exact p2
    · rw [g2]; exact p3
    · intro i hi hi2
      rw [d2, if_neg q] at hi2
      rw [g2]
      rcases (by omega : i < sp_d A ∨ i = sp_d A) with c | c
      · exact (g3 i c).cg (fun j hj => sp_note_old md q i j c hj)
      · subst c; exact g4.cg (fun j hj => sp_note_new md q j hj)
