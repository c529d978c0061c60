/-! Calls: needed, steady, when, spark, cut, holder, count. -/
theorem mx_and0 {s p : Nat} : s &&& 2 ^ p = 0 ↔ s.testBit p = false := by
  constructor
  · intro h
    have e : (s &&& 2 ^ p).testBit p = false := by rw [h, Nat.zero_testBit]
    rw [Nat.testBit_and, Nat.testBit_two_pow] at e
    simpa using e
  · intro h
    apply Nat.eq_of_testBit_eq
    intro j
    rw [Nat.testBit_and, Nat.testBit_two_pow, Nat.zero_testBit]
    by_cases q : p = j
    · subst q; rw [h]; rfl
    · simp [q]
theorem mx_andb {s p : Nat} (hs : s < 256) (hp : p < 8) : (nI s &&& nI (2 ^ p) = 0) ↔ s.testBit p = false := by
  rw [mx_and, show (0 : Int32) = nI 0 from rfl, nI_eq (Nat.lt_of_le_of_lt Nat.and_le_left (by omega)) (by omega), mx_and0]
theorem InvS.hold {E : mv_E} {h : mv_H} {V : vw} (i : InvS E h V) (m : InvM V) : mv_I h 81 0 = nI (sp_hold (vA V)) := i.1.1.2.1.1.trans m.1.1.hold.1
theorem InvS.K {E : mv_E} {h : mv_H} {V : vw} (i : InvS E h V) : mv_KE E h (mv_R h 50 3) = (3, 16) := i.1.1.1.1.1.2.1
theorem InvS.P {E : mv_E} {h : mv_H} {V : vw} (i : InvS E h V) (m : InvM V) : mv_I h (mv_R h 50 3) 0 = nI (sp_P (vA V)) := i.1.1.1.1.2.1.1.trans m.ok.1
theorem fM.of {V : vw} {h : mv_H} (e : vw_of h = V) : fM V h (mv_sI h 148 0 0) := by subst e; exact fM0
-- needed
def sp_nd (A : Nat → Int32) : Nat → Nat := mx_fold (fun p a => a ||| cond ((sp_hold A).testBit p && !sp_float A (mx_wo (sp_hold A) (2 ^ p))) (2 ^ p) 0) 0
def v_needed (V : vw) : Int32 := cond (sp_float (vA V) (sp_hold (vA V))) (nI (sp_nd (vA V) (sp_P (vA V)))) 0
theorem cc139 {E : mv_E} {D k n : Nat} {h : mv_H} {Q : mv_Q} {V : vw} (i : InvC E h V) (m : InvM V) (H : ∀ h', InvC E h' V → fCl h h' → Q (some (.int (v_needed V))) h') : mv_VE E (D + 4) k n 139 0 [some (.ref 50), none, none, none] [] h Q := by
  have p2 := m.p2
  have p8 := m.p8
  have hh := m.1.1.hold
  apply sg139_0
  unfold v_needed at H
  refine cc51 i m rfl (fun h1 f1 s1 => ⟨rfl, ?_⟩)
  refine cs57 (sp_hold (vA V)) s1 f1.fC6 m hh.2 (s1.hold m) (fun h2 s2 f2 => ⟨_, rfl, ?_⟩)
  cases z : sp_float (vA V) (sp_hold (vA V)) with
  | false => rw [if_pos (by rfl)]; rw [z] at H; exact H h2 (s2.C m) f2
  | true =>
    rw [if_neg (by decide)]
    rw [z] at H
    refine mx_loop (P := fun p => ∀ h', InvS E h' V → fCl h h' → mv_VE E (D + 4) k n 139 38 [some (.ref 50), some (.int (nI (sp_nd (vA V) p))), some (.int (nI p)), none] [] h' Q) (sp_P (vA V)) ?_ ?_ h2 s2 f2
    · intro h' i' f'
      apply sg139_38
      rw [i'.K, i'.P m]
      refine mv_gdI rfl ?_
      exact mx_ltF (sp_P (vA V)) (sp_P (vA V)) (Nat.le_refl _) (H h' (i'.C m) f') (by omega)
    · intro p hp ih h' i' f'
      have es : sp_nd (vA V) (p + 1) = sp_nd (vA V) p ||| cond ((sp_hold (vA V)).testBit p && !sp_float (vA V) (mx_wo (sp_hold (vA V)) (2 ^ p))) (2 ^ p) 0 := rfl
      rw [es] at ih
      apply sg139_38
      rw [i'.K, i'.P m, i'.hold m, mx_1shl (by omega), mx_andn, nI_1]
      refine mv_gdI rfl ?_
      refine mx_ltT p (sp_P (vA V)) hp ?_ (by omega)
      refine mx_ifb ((sp_hold (vA V)).testBit p) (mx_andb (by omega) (by omega)) (fun b => ?_) (fun b => ?_)
      · rw [b, Bool.false_and, cond_false, Nat.or_zero] at ih
        exact ih h' i' f'
      · rw [b, Bool.true_and] at ih
        refine cs57 _ i' f' m (mx_wo_lt hh.2) rfl (fun h3 s3 f3 => ⟨_, rfl, ?_⟩)
        have ih2 := ih h3 s3 f3
        cases w : sp_float (vA V) (mx_wo (sp_hold (vA V)) (2 ^ p)) with
        | false => rw [if_pos (by rfl), mx_or]; rw [w] at ih2; exact ih2
        | true => rw [if_neg (by decide)]; rw [w, Bool.not_true, cond_false, Nat.or_zero] at ih2; exact ih2
theorem mx_or0 (a : Nat) : nI a ||| (0 : Int32) = nI (a ||| 0) := mx_or a 0
theorem cm260 {E : mv_E} {D k n : Nat} {h : mv_H} {Q : mv_Q} {V : vw} (e : vw_of h = V) (m : InvM V) (H : ∀ h', fM V h h' → Q (some (.int (v_needed V))) h') : mv_VE E (D + 4) k n 260 0 [some (.ref 148), none, none] [] h Q := by
  have p2 := m.p2
  have p8 := m.p8
  have hh := m.1.1.hold
  have f0 := fM.of e
  have e65 : mv_I h 149 65 = nI (sp_hold (vA V)) := by rw [← hh.1, ← e]; rfl
  apply sg260_0
  unfold v_needed at H
  refine cw220 (sp_hold (vA V)) f0 m (by omega) e65 (fun h2 f2 => ⟨_, rfl, ?_⟩)
  cases z : sp_float (vA V) (sp_hold (vA V)) with
  | false => rw [if_pos (by rfl)]; rw [z] at H; exact H h2 f2
  | true =>
    rw [if_neg (by decide)]
    rw [z] at H
    refine mx_loop (P := fun p => ∀ h', fM V h h' → mv_VE E (D + 4) k n 260 25 [some (.ref 148), some (.int (nI (sp_nd (vA V) p))), some (.int (nI p))] [] h' Q) (sp_P (vA V)) ?_ ?_ h2 f2
    · intro h' f'
      apply sg260_25
      rw [f'.A, m.ok.1]
      exact mx_ltF (sp_P (vA V)) (sp_P (vA V)) (Nat.le_refl _) (H h' f') (by omega)
    · intro p hp ih h' f'
      have es : sp_nd (vA V) (p + 1) = sp_nd (vA V) p ||| cond ((sp_hold (vA V)).testBit p && !sp_float (vA V) (mx_wo (sp_hold (vA V)) (2 ^ p))) (2 ^ p) 0 := rfl
      rw [es] at ih
      apply sg260_25
      rw [f'.A, m.ok.1, hh.1, mx_1shl (by omega), mx_andn, nI_1, mx_or, mx_or0]
      refine mx_ltT p (sp_P (vA V)) hp ?_ (by omega)
      refine mx_cdb ((sp_hold (vA V)).testBit p) (mx_isIn (by omega) (by omega)) (fun b => ?_) (fun b => ?_)
      · rw [b, Bool.true_and] at ih
        have wl : mx_wo (sp_hold (vA V)) (2 ^ p) < 2 ^ sp_P (vA V) := mx_wo_lt hh.2
        refine cw220 _ f' m (by omega) rfl (fun h3 f3 => ⟨_, rfl, ?_⟩)
        have ih2 := ih h3 f3
        cases w : sp_float (vA V) (mx_wo (sp_hold (vA V)) (2 ^ p)) with
        | false => rw [if_pos (by rfl)]; rw [w] at ih2; exact ih2
        | true => rw [if_neg (by decide)]; rw [w] at ih2; exact ih2
      · rw [b] at ih
        exact ih h' f'
-- steady
def sp_sty (A : Nat → Int32) : Nat → Nat := mx_fold (fun s a => a + (decide (sp_week A s = s)).toNat) 0
theorem cc131 {E : mv_E} {D k n : Nat} {h : mv_H} {Q : mv_Q} {V : vw} (i : InvC E h V) (m : InvM V) (H : ∀ h', InvC E h' V → fCl h h' → Q (some (.int (nI (sp_sty (vA V) (2 ^ sp_P (vA V)))))) h') : mv_VE E (D + 4) k n 131 0 [some (.ref 50), none, none] [] h Q := by
  have p2 := m.p2
  have p1 : 0 < 2 ^ sp_P (vA V) := Nat.pow_pos (by omega)
  apply sg131_0
  refine cc51 i m rfl (fun h1 f1 s1 => ⟨rfl, ?_⟩)
  refine mx_loop (P := fun s => ∀ h', InvS E h' V → fCl h h' → mv_VE E (D + 4) k n 131 19 [some (.ref 50), some (.int (nI (sp_sty (vA V) s))), some (.int (nI s))] [] h' Q) (2 ^ sp_P (vA V)) ?_ ?_ h1 s1 f1.fC6
  · intro h' i' f'
    apply sg131_19
    rw [i'.K]
    refine mv_gdI rfl (ct29 i'.1.1.1.1 m.ok ⟨_, rfl, ?_⟩)
    exact mx_ltT _ _ (show 2 ^ sp_P (vA V) - 1 < 2 ^ sp_P (vA V) by omega) (H h' (i'.C m) f') (by omega)
  · intro s hs ih h' i' f'
    have es : sp_sty (vA V) (s + 1) = sp_sty (vA V) s + (decide (sp_week (vA V) s = s)).toNat := rfl
    rw [es] at ih
    have wl := sp_week_le (vA V) s
    apply sg131_19
    rw [i'.K]
    refine mv_gdI rfl (ct29 i'.1.1.1.1 m.ok ⟨_, rfl, ?_⟩)
    refine mx_ltF (2 ^ sp_P (vA V) - 1) s (by omega) ?_ (by omega)
    rw [nI_1, nI_1]
    refine cs59 s i' f' m hs rfl (fun h2 i2 f2 => ⟨_, rfl, ?_⟩)
    have ih2 := ih h2 i2 f2
    refine mx_eq (sp_week (vA V) s) s (fun q => ?_) (fun q => ?_) (by omega) (by omega)
    · rw [decide_eq_true q] at ih2; exact ih2
    · rw [decide_eq_false q] at ih2; exact ih2
theorem cm252 {E : mv_E} {D k n : Nat} {h : mv_H} {Q : mv_Q} {V : vw} (e : vw_of h = V) (m : InvM V) (H : ∀ h', fM V h h' → Q (some (.int (nI (sp_sty (vA V) (2 ^ sp_P (vA V)))))) h') : mv_VE E (D + 4) k n 252 0 [some (.ref 148), none, none] [] h Q := by
  have p2 := m.p2
  have p1 : 0 < 2 ^ sp_P (vA V) := Nat.pow_pos (by omega)
  apply sg252_0
  refine mx_loop (P := fun s => ∀ h', fM V h h' → mv_VE E (D + 4) k n 252 9 [some (.ref 148), some (.int (nI (sp_sty (vA V) s))), some (.int (nI s))] [] h' Q) (2 ^ sp_P (vA V)) ?_ ?_ _ (fM.of e)
  · intro h' f'
    apply sg252_9
    rw [cw219 f' m]
    exact mx_ltT _ _ (show 2 ^ sp_P (vA V) - 1 < 2 ^ sp_P (vA V) by omega) (H h' f') (by omega)
  · intro s hs ih h' f'
    have es : sp_sty (vA V) (s + 1) = sp_sty (vA V) s + (decide (sp_week (vA V) s = s)).toNat := rfl
    rw [es] at ih
    have wl := sp_week_le (vA V) s
    apply sg252_9
    rw [cw219 f' m, nI_1, nI_1]
    refine mx_ltF (2 ^ sp_P (vA V) - 1) s (by omega) ?_ (by omega)
    refine cw229 s f' m (by omega) rfl (fun h2 f2 => ⟨_, rfl, ?_⟩)
    have ih2 := ih h2 f2
    refine mx_eq (sp_week (vA V) s) s (fun q => ?_) (fun q => ?_) (by omega) (by omega)
    · rw [decide_eq_true q] at ih2; exact ih2
    · rw [decide_eq_false q] at ih2
      rw [show nI (sp_sty (vA V) s) + (0 : Int32) = nI (sp_sty (vA V) s + 0) from nI_add _ 0]
      exact ih2
-- when
def v_when (V : vw) (x : Int32) : Int32 := cond (pn (vA V) x) (cond ((sp_hold (vA V)).testBit x.toNatClampNeg) (mx_find (fun i => !(sp_it (vA V) (sp_hold (vA V)) i).testBit x.toNatClampNeg) 8 1) (-1)) (-2)
theorem cc129 {E : mv_E} {D k n : Nat} {h : mv_H} {Q : mv_Q} {V : vw} {x : Int32} (i : InvC E h V) (m : InvM V) (H : ∀ h', InvC E h' V → fCl h h' → Q (some (.int (v_when V x))) h') : mv_VE E (D + 4) k n 129 0 [some (.ref 50), some (.int x), none, none, none] [] h Q := by
  have p2 := m.p2
  have p8 := m.p8
  have hh := m.1.1.hold
  apply sg129_0
  unfold v_when at H
  refine cc104 i.1 m ⟨_, rfl, ?_⟩
  cases z : pn (vA V) x with
  | false => rw [if_pos (by rfl)]; rw [z] at H; exact H h i fCl.rf
  | true =>
    rw [if_neg (by decide)]
    obtain ⟨p, hp, rfl⟩ := pnT m.ok z
    rw [z, cond_true, nI_clamp (by omega)] at H
    refine cc51 i m rfl (fun h1 f1 s1 => ⟨rfl, ?_⟩)
    rw [s1.hold m, mx_1shl (by omega)]
    have key : ∀ g j, j + g = 8 → (sp_it (vA V) (sp_hold (vA V)) j).testBit p = true → ∀ h', InvS E h' V → fCl h h' → (∀ h', InvC E h' V → fCl h h' → Q (some (.int (mx_find (fun i => !(sp_it (vA V) (sp_hold (vA V)) i).testBit p) g (j + 1)))) h') → mv_VE E (D + 4) k n 129 41 [some (.ref 50), none, some (.int (nI (2 ^ p))), some (.int (nI (sp_it (vA V) (sp_hold (vA V)) j))), some (.int (nI (j + 1)))] [] h' Q := by
      intro g
      induction g with
      | zero =>
        intro j hj _ h' i' f' H
        apply sg129_41
        exact mx_ltT 8 (j + 1) (by omega) (H h' (i'.C m) f') (by omega)
      | succ g ih =>
        intro j hj hb h' i' f' H
        have l1 := sp_it_lt (A := vA V) hh.2 j
        have l2 := sp_it_lt (A := vA V) hh.2 (j + 1)
        apply sg129_41
        refine mx_ltF 8 (j + 1) (by omega) ?_ (by omega)
        refine mx_ifb _ (mx_andb (by omega) (by omega)) (fun b => by rw [hb] at b; cases b) (fun _ => ?_)
        refine cs59 _ i' f' m l1 rfl (fun h2 i2 f2 => ⟨_, rfl, ?_⟩)
        rw [← sp_it_s, nI_1]
        unfold mx_find at H
        refine mx_ifb _ (mx_andb (by omega) (by omega)) (fun b => ?_) (fun b => ?_)
        · have hH := H h2 (i2.C m) f2
          rw [b, if_pos (by rfl)] at hH
          exact hH
        · refine ih (j + 1) (by omega) b h2 i2 f2 (fun h3 i3 f3 => ?_)
          have hH := H h3 i3 f3
          rw [b, if_neg (by decide)] at hH
          exact hH
    cases b : (sp_hold (vA V)).testBit p with
    | true =>
      rw [b] at H
      exact key 8 0 rfl b h1 s1 f1.fC6 H
    | false =>
      rw [b] at H
      apply sg129_41
      refine mx_ltF 8 1 (by omega) ?_ (by omega)
      refine mx_ifb _ (mx_andb (by omega) (by omega)) (fun _ => H h1 (s1.C m) f1.fC6) (fun c => by rw [b] at c; cases c)
theorem cm250 {E : mv_E} {D k n : Nat} {h : mv_H} {Q : mv_Q} {V : vw} {x : Int32} (e : vw_of h = V) (m : InvM V) (H : ∀ h', fM V h h' → Q (some (.int (v_when V x))) h') : mv_VE E (D + 4) k n 250 0 [some (.ref 148), some (.int x), none, none] [] h Q := by
  have p2 := m.p2
  have p8 := m.p8
  have hh := m.1.1.hold
  have f0 := fM.of e
  have e65 : mv_I h 149 65 = nI (sp_hold (vA V)) := by rw [← hh.1, ← e]; rfl
  have e1 : pf210 (mv_sI h 148 0 0) x.toInt64 = pn (vA V) x := by rw [pn210 (by rw [f0.A]; exact m.ok), f0.A]
  apply sg250_0
  unfold v_when at H
  rw [e65]
  refine mx_cdb _ e1 (fun z => ?_) (fun z => ?_)
  · obtain ⟨p, hp, rfl⟩ := pnT m.ok z
    rw [z, cond_true, nI_clamp (by omega)] at H
    refine mx_cdb _ (mx_isIn (by omega) (by omega)) (fun b => ?_) (fun b => ?_)
    · rw [b, cond_true] at H
      have key : ∀ g j, j + g = 8 → ∀ h', fM V h h' → (∀ h', fM V h h' → Q (some (.int (mx_find (fun i => !(sp_it (vA V) (sp_hold (vA V)) i).testBit p) g (j + 1)))) h') → mv_VE E (D + 4) k n 250 38 [some (.ref 148), some (.int (nI p)), some (.int (nI (sp_it (vA V) (sp_hold (vA V)) j))), some (.int (nI (j + 1)))] [] h' Q := by
        intro g
        induction g with
        | zero =>
          intro j hj h' f' H
          apply sg250_38
          exact mx_ltT 8 (j + 1) (by omega) (H h' f') (by omega)
        | succ g ih =>
          intro j hj h' f' H
          have l1 := sp_it_lt (A := vA V) hh.2 j
          have l2 := sp_it_lt (A := vA V) hh.2 (j + 1)
          apply sg250_38
          refine mx_ltF 8 (j + 1) (by omega) ?_ (by omega)
          refine cw229 _ f' m (by omega) rfl (fun h2 f2 => ⟨_, rfl, ?_⟩)
          rw [← sp_it_s, nI_1]
          unfold mx_find at H
          refine mx_cdb _ (mx_isIn (by omega) (by omega)) (fun b => ?_) (fun b => ?_)
          · refine ih (j + 1) (by omega) h2 f2 (fun h3 f3 => ?_)
            have hH := H h3 f3
            rw [b, if_neg (by decide)] at hH
            exact hH
          · have hH := H h2 f2
            rw [b, if_pos (by rfl)] at hH
            exact hH
      exact key 8 0 rfl _ f0 H
    · rw [b, cond_false] at H; exact H _ f0
  · rw [z] at H; exact H _ f0
