/-! Calls: judge, perform. -/
def sp_tell (nu : Nat → Int64) : Nat → Nat → (Nat → Int32) → (Nat → Int32) × Nat × Nat
  | 0, k, A => (A, k, 0)
  | f + 1, k, A => if sp_whyD A (dn (nu k)) = 0 then sp_tell nu f (k + 1) (sp_doD A (dn (nu k))) else (A, k, sp_whyD A (dn (nu k)))
def sp_tl (V : vw) (t : Nat) : (Nat → Int32) × Nat × Nat := sp_tell (fun k => vNu V (40 * t + k)) (vRm V t).toNatClampNeg 0 (vA V)
theorem sp_tell_inv {V : vw} {nu : Nat → Int64} : ∀ f k A, sp_now (vA V) A → InvM (vw_A V A) → sp_now (vA V) (sp_tell nu f k A).1 ∧ InvM (vw_A V (sp_tell nu f k A).1)
  | 0, _, _, s, m => ⟨s, m⟩
  | f + 1, k, A, s, m => by
    unfold sp_tell
    by_cases q : sp_whyD A (dn (nu k)) = 0
    · rw [if_pos q]
      obtain ⟨j, hj, -, ed⟩ := sp_whyD_l q
      rw [ed] at q ⊢
      exact sp_tell_inv f (k + 1) _ (s.tr (sp_doD_now A hj)) (m.tell (V := vw_A V A) hj q)
    · rw [if_neg q]; exact ⟨s, m⟩
theorem sp_tell_k {nu : Nat → Int64} : ∀ f k A, k ≤ (sp_tell nu f k A).2.1 ∧ (sp_tell nu f k A).2.1 ≤ k + f ∧ ((sp_tell nu f k A).2.1 = k → (sp_tell nu f k A).1 = A)
  | 0, k, A => ⟨Nat.le_refl _, Nat.le_refl _, fun _ => rfl⟩
  | f + 1, k, A => by
    unfold sp_tell
    by_cases q : sp_whyD A (dn (nu k)) = 0
    · rw [if_pos q]
      obtain ⟨h1, h2, -⟩ := sp_tell_k (nu := nu) f (k + 1) (sp_doD A (dn (nu k)))
      exact ⟨by omega, by omega, fun c => by omega⟩
    · rw [if_neg q]; exact ⟨Nat.le_refl _, by show k ≤ _; omega, fun _ => rfl⟩
theorem sp_tell_w {nu : Nat → Int64} : ∀ f k A, (sp_tell nu f k A).2.2 < 3
  | 0, k, A => by show 0 < 3; omega
  | f + 1, k, A => by
    unfold sp_tell
    by_cases q : sp_whyD A (dn (nu k)) = 0
    · rw [if_pos q]; exact sp_tell_w f _ _
    · rw [if_neg q]; exact sp_whyD_lt _ _
theorem ct108 {E : mv_E} {D k n : Nat} {h : mv_H} {Q : mv_Q} {A : Nat → Int32} {x : Nat} {y : Int32} (s : Nat) (hx : x = 81 ∨ x = 85) (cr : cr_ok E h (mv_R h 50 3) A) (m : m_ok A) (iv : se_iv E h) (ix : i_st h x (sp_was A)) (hs : s < 2 ^ sp_P A) (e : y = nI s) (H : ∀ h', mx_fz (mx_sX x) h h' → se_iv E h' → Q (some (.int (nI (sp_float A s).toNat))) h') : mv_VE E (D + 4) k n 108 0 [some (.ref 50), some (.ref x), some (.int y)] [] h Q := by
  subst e
  apply sg108_0
  refine ct51 iv (st_adD hx) (by omega) cr m.1 (i_st.as ix) (fun h1 f1 se1 => ⟨rfl, ?_⟩)
  refine ct57 s se1 m.1 m.vb hs rfl (fun h2 f2 se2 => ⟨_, rfl, ?_⟩)
  have hH := H h2 ((mx_sXof f1 (fun a k q => mx_s6f (by omega))).tr (mx_sXof f2.z (fun a k q => mx_s5f (by omega)))) ⟨A, m.1, se2⟩
  cases z : sp_float A s with
  | false => rw [if_pos (by rfl)]; rw [z] at hH; exact hH
  | true => rw [if_neg (by decide)]; rw [z] at hH; exact hH
def v_judge (V : vw) (x y : Int32) : Int32 := cond (bn y 4) (if v_nt V x = 0 then (if y = 0 then (if (sp_tl V x.toNatClampNeg).2.2 = 0 then -1 else nI (sp_tl V x.toNatClampNeg).2.1) else if y = 1 then nI (sp_tl V x.toNatClampNeg).2.2 else if y = 2 then (sp_tl V x.toNatClampNeg).1 65 else nI (sp_float (sp_tl V x.toNatClampNeg).1 (sp_hold (sp_tl V x.toNatClampNeg).1)).toNat) else v_nt V x) (-2)
theorem mx_sX85 {a k : Nat} (h : (a < 83 ∨ 96 < a)) : mx_sX 85 a k = false := mx_sXf (by omega)
theorem InvC.s85 {E : mv_E} {h h' : mv_H} {V : vw} (i : InvC0 E h V) (f : mx_fz (mx_sX 85) h h') (iv : se_iv E h') : InvC E h' V := ⟨i.fz f (fun a k q => mx_sX85 q.1), iv⟩
theorem fCl85 {h h' : mv_H} (f : mx_fz (mx_sX 85) h h') : fCl h h' := f.toC (fun a k q => mx_sX85 (by omega))
theorem InvC.cr {E : mv_E} {h : mv_H} {V : vw} {A : Nat → Int32} (i : InvC0 E h V) (m : InvM V) (s : sp_now (vA V) A) : cr_ok E h (mv_R h 50 3) A := i.1.1.1.cg s.st m.ok
theorem cc118 {E : mv_E} {D k n : Nat} {h : mv_H} {Q : mv_Q} {V : vw} {x y : Int32} (i : InvC E h V) (m : InvM V) (H : ∀ h', InvC E h' V → fCl h h' → Q (some (.int (v_judge V x y))) h') : mv_VE E (D + 6) k n 118 0 [some (.ref 50), some (.int x), some (.int y), none, none, none, none] [] h Q := by
  apply sg118_0
  unfold v_judge v_nt at H
  refine mx_cdb _ (bn_119 x) (fun a => ?_) (fun a => ?_)
  · rw [a, cond_true] at H
    refine mx_if (fun q => ?_) (fun q => mx_if (fun r => ?_) (fun r => ?_))
    · have b : bn y 4 = false := by unfold bn; rw [decide_eq_true q]; rfl
      rw [b] at H; exact H h i fCl.rf
    · have b : bn y 4 = false := by rw [bn_gt (N := 3) (by omega) q, decide_eq_true (show nI 3 < y from r)]; rfl
      rw [b] at H; exact H h i fCl.rf
    · have b : bn y 4 = true := by rw [bn_gt (N := 3) (by omega) q, decide_eq_false (show ¬ nI 3 < y from r)]; rfl
      rw [b, cond_true] at H
      obtain ⟨t, ht, rfl⟩ := bnT (by omega) a
      rw [nI_clamp (n := t) (by omega)] at H
      rw [nI_clamp (n := t) (by omega), (ty_sh ht E h).1]
      refine mv_gdI (by rw [mx_in t ht (by omega)]; rfl) (mv_gdI rfl (ct86 t ht ⟨_, rfl, ?_⟩))
      rcases tr_cases (i.1.2.2.1 t ht) with ⟨b1, b2⟩ | ⟨so, mm, b1, b2, b3, b4, b5, b6, b7⟩
      · rw [b2, if_neg (by decide)]
        rw [if_pos b1, if_neg (by decide)] at H
        exact H h i fCl.rf
      · have nso : ¬ nI so = -1 := mx_m1n (by omega)
        have nm : ¬ nI mm = -1 := mx_m1n (by omega)
        rw [b6, decide_eq_false nm, if_pos (by rfl)]
        have hv : (if vRs V t = -1 then (-6 : Int32) else 0) = 0 := by rw [b3, if_neg nso]
        rw [if_pos hv] at H
        have et : sp_tl V t = sp_tell (fun k => vNu V (40 * t + k)) mm 0 (vA V) := by unfold sp_tl; rw [b5, nI_clamp (by omega)]
        rw [et] at H
        refine ct67 (Or.inr (Or.inr (Or.inl rfl))) (Or.inl rfl) (fun h1 f1 c1 c2 => ⟨rfl, ?_⟩)
        have g1 : mx_fz (mx_sX 85) h h1 := mx_sXof f1.z (fun a k q => by
          unfold mx_sx
          rw [mv_bne q.1, mv_bne q.2.1]; rfl)
        have nw := InvC.now i.1
        have j1 : i_st h1 85 (sp_was (vA V)) := ⟨(c1 0 (by omega)).trans nw.1, (c1 1 (by omega)).trans nw.2.1, (c1 2 (by omega)).trans nw.2.2.1, fun p hp => (c2 p hp).trans (nw.2.2.2 p hp)⟩
        have iv1 : se_iv E h1 := i.2.fz f1.z (fun a k q => by
          unfold mx_sx
          rw [mv_bne (by unfold cr_reg at q; omega), mv_bne (by unfold cr_reg at q; omega)]; rfl)
        -- the end
        have fin : ∀ (A : Nat → Int32) (h2 : mv_H) (pl wy : Int32), sp_now (vA V) A → InvM (vw_A V A) → mx_fz (mx_sX 85) h h2 → se_iv E h2 → i_st h2 85 (sp_was A) → (∀ h', InvC E h' V → fCl h h' → Q (some (.int (if y = 0 then pl else if y = 1 then wy else if y = 2 then A 65 else nI (sp_float A (sp_hold A)).toNat))) h') → (if y = 0 then (Q (some (.int pl)) h2) else (if y = 1 then (Q (some (.int wy)) h2) else (if y = 2 then (Q (some (.int (mv_I h2 85 0))) h2) else (mv_VE E (D + 5) 0 0 108 0 [some (.ref 50), some (.ref 85), some (.int (mv_I h2 85 0))] [] h2 (fun v h5 => ∃ r6, v = some (.int r6) ∧ Q (some (.int r6)) h5))))) := by
          intro A h2 pl wy s mA f2 iv2 i2 K
          have ic := InvC.s85 i.1 f2 iv2
          refine mx_if (fun w => ?_) (fun w => mx_if (fun w2 => ?_) (fun w2 => mx_if (fun w3 => ?_) (fun w3 => ?_)))
          · have K := K h2 ic (fCl85 f2); rw [if_pos w] at K; exact K
          · have K := K h2 ic (fCl85 f2); rw [if_neg w, if_pos w2] at K; exact K
          · have K := K h2 ic (fCl85 f2); rw [if_neg w, if_neg w2, if_pos w3] at K
            rw [i2.1]; exact K
          · rw [if_neg w, if_neg w2, if_neg w3] at K
            exact ct108 (sp_hold A) (Or.inr rfl) (InvC.cr ic.1 m s) mA.1.1 iv2 i2 mA.1.1.hold.2 (i2.1.trans mA.1.1.hold.1) (fun h3 f3 iv3 => ⟨_, rfl, K h3 (InvC.s85 i.1 (f2.tr f3) iv3) (fCl85 (f2.tr f3))⟩)
        have key : ∀ f k' A h2, k' + f = mm → sp_now (vA V) A → InvM (vw_A V A) → mx_fz (mx_sX 85) h h2 → se_iv E h2 → i_st h2 85 (sp_was A) → (∀ h', InvC E h' V → fCl h h' → Q (some (.int (if y = 0 then (if (sp_tell (fun k => vNu V (40 * t + k)) f k' A).2.2 = 0 then -1 else nI (sp_tell (fun k => vNu V (40 * t + k)) f k' A).2.1) else if y = 1 then nI (sp_tell (fun k => vNu V (40 * t + k)) f k' A).2.2 else if y = 2 then (sp_tell (fun k => vNu V (40 * t + k)) f k' A).1 65 else nI (sp_float (sp_tell (fun k => vNu V (40 * t + k)) f k' A).1 (sp_hold (sp_tell (fun k => vNu V (40 * t + k)) f k' A).1)).toNat))) h') → mv_VE E (D + 6) k n 118 56 [some (.ref 50), none, some (.int y), some (.ref (136 + 2 * t)), some (.int (-1)), some (.int 0), some (.int (nI k'))] [] h2 Q := by
          intro f
          induction f with
          | zero =>
            intro k' A h2 hk s mA f2 iv2 i2 K
            have ic := InvC.s85 i.1 f2 iv2
            have e2 : mv_I h2 (136 + 2 * t) 2 = nI mm := by rw [f2.I _ (fun k => mx_sX85 (by omega))]; exact b6
            apply sg118_56
            rw [(ty_sh ht E h2).1, e2]
            refine mv_gdI rfl (mx_ltF k' mm (by omega) ?_ (by omega))
            exact fin A h2 (-1) 0 s mA f2 iv2 i2 K
          | succ f ih =>
            intro k' A h2 hk s mA f2 iv2 i2 K
            have ic := InvC.s85 i.1 f2 iv2
            have e2 : mv_I h2 (136 + 2 * t) 2 = nI mm := by rw [f2.I _ (fun k => mx_sX85 (by omega))]; exact b6
            have e3 : mv_J h2 (137 + 2 * t) k' = vNu V (40 * t + k') := by rw [(f2.2.2 _ k' (mx_sX85 (by omega))).2.1]; exact b7 k' (by omega)
            unfold sp_tell at K
            apply sg118_56
            rw [(ty_sh ht E h2).1, e2]
            refine mv_gdI rfl (mx_ltT k' mm (by omega) (mx_T rfl (mv_gdI rfl (ct87 t k' ht (by omega) rfl ⟨_, rfl, ?_⟩))) (by omega))
            rw [e3]
            refine ct120 (Or.inr rfl) (InvC.cr ic.1 m s) mA.1.1 iv2 i2 (fun w h3 f3 i3 iv3 => ⟨_, rfl, ?_⟩) (fun w => ⟨_, rfl, ?_⟩)
            · rw [if_pos w] at K
              rw [if_pos rfl, nI_1]
              obtain ⟨j, hj, -, ed⟩ := sp_whyD_l w
              rw [ed] at w i3 K
              exact ih (k' + 1) _ h3 (by omega) (s.tr (sp_doD_now A hj)) (mA.tell (V := vw_A V A) hj w) (f2.tr f3) iv3 i3 K
            · rw [if_neg w] at K
              have wl := sp_whyD_lt A (dn (vNu V (40 * t + k')))
              have w0 : ¬ nI (sp_whyD A (dn (vNu V (40 * t + k')))) = 0 := nI_ne0 (by omega) (by omega)
              rw [if_neg w0]
              apply sg118_56
              rw [(ty_sh ht E h2).1, e2, nI_1]
              rw [if_neg w] at K
              have ff := fin A h2 (nI k') (nI (sp_whyD A (dn (vNu V (40 * t + k'))))) s mA f2 iv2 i2 K
              exact mv_gdI rfl (mx_lt (k' + 1) mm (fun _ => mx_F w0 ff) (fun _ => ff) (by omega) (by omega))
        exact key mm 0 (vA V) h1 (by omega) (fun _ _ => rfl) m g1 iv1 j1 H
  · rw [a, cond_false, if_neg (by decide)] at H
    cases b : bn y 4 <;> rw [b] at H <;> exact H h i fCl.rf
-- the model
theorem cw240 {E : mv_E} {D k n : Nat} {h0 h : mv_H} {Q : mv_Q} {V : vw} {x : Int32} (t mm : Nat) (f : fM V h0 h) (m : InvM V) (ht : t < 4) (hm : mm ≤ 40) (em : vRm V t = nI mm) (e : x = nI t) (H : ∀ h', fM (vw_A V (sp_tell (fun k => vNu V (40 * t + k)) mm 0 (vA V)).1) h0 h' → mv_I h' 148 19 = nI (sp_tell (fun k => vNu V (40 * t + k)) mm 0 (vA V)).2.2 → mv_I h' 155 = mv_I h 155 → Q (some (.int (nI (sp_tell (fun k => vNu V (40 * t + k)) mm 0 (vA V)).2.1))) h') : mv_VE E (D + 6) k n 240 0 [some (.ref 148), some (.int x), none] [] h Q := by
  subst e
  apply sg240_0
  have key : ∀ f' k' A h2, k' + f' = mm → sp_now (vA V) A → InvM (vw_A V A) → fM (vw_A V A) h0 h2 → mv_I h2 148 19 = 0 → mv_I h2 155 = mv_I h 155 → (∀ h', fM (vw_A V (sp_tell (fun k => vNu V (40 * t + k)) f' k' A).1) h0 h' → mv_I h' 148 19 = nI (sp_tell (fun k => vNu V (40 * t + k)) f' k' A).2.2 → mv_I h' 155 = mv_I h 155 → Q (some (.int (nI (sp_tell (fun k => vNu V (40 * t + k)) f' k' A).2.1))) h') → mv_VE E (D + 6) k n 240 7 [some (.ref 148), some (.int (nI t)), some (.int (nI k'))] [] h2 Q := by
    intro f'
    induction f' with
    | zero =>
      intro k' A h2 hk s mA f2 e19 e155 K
      have e3 : mv_I h2 163 t = nI mm := by
        rw [show mv_I h2 163 = vRm (vw_of h2) from rfl, f2.2]; exact em
      apply sg240_7
      rw [nI_clamp (n := t) (by omega), e3]
      have i4 : (true && mv_in (nI t) 4) = true := mx_inT t ht (by omega)
      refine mv_gdI i4 (mx_ltF k' mm (by omega) (mv_gdI i4 ?_) (by omega))
      have := K h2 f2 e19 e155
      rw [show mm = k' by omega]; exact this
    | succ f' ih =>
      intro k' A h2 hk s mA f2 e19 e155 K
      have e3 : mv_I h2 163 t = nI mm := by
        rw [show mv_I h2 163 = vRm (vw_of h2) from rfl, f2.2]; exact em
      have e4 : mv_J h2 164 (40 * t + k') = vNu V (40 * t + k') := by
        rw [show mv_J h2 164 = vNu (vw_of h2) from rfl, f2.2]; rfl
      unfold sp_tell at K
      apply sg240_7
      rw [nI_clamp (n := t) (by omega), e3, show (40 : Int32) * nI t = nI (40 * t) from pk_mul 40 t, nI_add, nI_clamp (n := 40 * t + k') (by omega), e4, cw241 f2 mA]
      have i4 : (true && mv_in (nI t) 4) = true := mx_inT t ht (by omega)
      have i160 : (true && mv_in (nI (40 * t + k')) 160) = true := mx_inT (40 * t + k') (by omega) (by omega)
      have wl := sp_whyD_lt A (dn (vNu V (40 * t + k')))
      refine mv_gdI i4 (mx_ltT k' mm (by omega) (mv_gdI i160 ?_) (by omega))
      show if nI (sp_whyD A (dn (vNu V (40 * t + k')))) = 0 then _ else _
      by_cases w : sp_whyD A (dn (vNu V (40 * t + k'))) = 0
      · rw [if_pos w] at K
        refine mx_T (by rw [w]; rfl) (mv_gdI i160 ?_)
        obtain ⟨j, hj, ev, ed⟩ := sp_whyD_l w
        rw [ed] at w K
        refine cw242 (V := vw_A V A) j (f2.sc (a := 148) (k := 19) rfl (by omega)) mA hj w (by rw [ev, lN_i]) (fun h3 f3 g3 => ⟨rfl, ?_⟩)
        rw [nI_1]
        refine ih (k' + 1) (sp_doD A j) h3 (by omega) (s.tr (sp_doD_now A hj)) (mA.tell (V := vw_A V A) hj w) f3 ?_ ?_ K
        · rw [g3 148 19 (by omega), mx_Iss, ed]
          show nI (sp_whyD A j) = 0
          rw [w]; rfl
        · rw [← e155]
          funext l
          rw [g3 155 l (by omega), mx_InE (by omega)]
      · rw [if_neg w] at K
        refine mx_F (nI_ne0 (by omega) (by omega)) (K _ (f2.sc (a := 148) (k := 19) rfl (by omega)) ?_ ?_)
        · rw [mx_Iss]; rfl
        · rw [← e155]
          funext l
          rw [mx_InE (by omega)]
  exact key mm 0 (vA V) _ (by omega) (fun _ _ => rfl) m (f.sc (a := 148) (k := 19) rfl (by omega)) (by rw [mx_Iss]) (funext fun l => by rw [mx_InE (by omega)]) H
theorem cw243 {E : mv_E} {D k n : Nat} {h0 h : mv_H} {Q : mv_Q} {V : vw} {A : Nat → Int32} (f : fM (vw_A V A) h0 h) (s : sp_now (vA V) A) (hw : ∀ j, j < 11 → mv_I h 155 j = vA V (65 + j)) (H : ∀ h', fM V h0 h' → mv_I h' 148 19 = mv_I h 148 19 → Q none h') : mv_VE E D k n 243 0 [some (.ref 148), none] [] h Q := by
  apply sg243_0
  refine mx_loop (P := fun i => ∀ h', fM (vw_A V (fun k => if 65 ≤ k ∧ k < 65 + i then vA V k else A k)) h0 h' → mv_I h' 155 = mv_I h 155 → mv_I h' 148 19 = mv_I h 148 19 → mv_VE E D k n 243 2 [some (.ref 148), some (.int (nI i))] [] h' Q) 11 ?_ ?_ h (f.eqA (fun k => by rw [if_neg (by omega)])) rfl rfl
  · intro h' f' _ e
    apply sg243_2
    refine mx_ltF 11 11 (Nat.le_refl _) (H h' ?_ e) (by omega)
    have g := f'.eqA (A2 := vA V) (fun k => by
      by_cases c : 65 ≤ k ∧ k < 65 + 11
      · rw [if_pos c]
      · rw [if_neg c]; exact s k (by omega))
    exact g
  · intro i hi ih h' f' e1 e2
    apply sg243_2
    rw [show (65 : Int32) + nI i = nI (65 + i) from nI_add 65 i, nI_clamp (n := 65 + i) (by omega), nI_clamp (n := i) (by omega), nI_1, e1, hw i hi]
    refine mx_ltT i 11 hi (mv_gdI (mx_inT i (by omega) (by omega)) (mv_gdI (mx_inT (65 + i) (by omega) (by omega)) ?_)) (by omega)
    refine ih _ ((f'.at).eqA (fun k => ?_)) (by rw [← e1]; exact funext fun l => mx_InE (by omega)) (by rw [← e2]; exact mx_InE (by omega))
    show mx_upA _ _ _ k = _
    unfold mx_upA
    show (if k = 65 + i then vA V (65 + i) else if 65 ≤ k ∧ k < 65 + i then vA V k else A k) = if 65 ≤ k ∧ k < 65 + (i + 1) then vA V k else A k
    by_cases c : k = 65 + i
    · rw [if_pos c, if_pos (by omega), c]
    · rw [if_neg c]
      by_cases c2 : 65 ≤ k ∧ k < 65 + i
      · rw [if_pos c2, if_pos (by omega)]
      · rw [if_neg c2, if_neg (by omega)]
theorem v_nt0 {V : vw} {x : Int32} (m : InvM V) (h : v_nt V x = 0) : ∃ t, t < 4 ∧ x = nI t ∧ ∃ mm, mm ≤ 40 ∧ vRm V t = nI mm := by
  unfold v_nt at h
  cases a : bn x 4 with
  | false => rw [a, cond_false] at h; exact absurd h (by decide)
  | true =>
    rw [a, cond_true] at h
    obtain ⟨t, ht, rfl⟩ := bnT (by omega) a
    rw [nI_clamp (n := t) (by omega)] at h
    rcases m.2.2.1 t ht with b1 | ⟨so, mm, b1, b2, b3, b5⟩
    · rw [if_pos b1] at h; exact absurd h (by decide)
    · exact ⟨t, ht, rfl, mm, b2, b5⟩
theorem cm238 {E : mv_E} {D k n : Nat} {h : mv_H} {Q : mv_Q} {V : vw} {x y : Int32} (e : vw_of h = V) (m : InvM V) (H : ∀ h', fM V h h' → Q (some (.int (v_judge V x y))) h') : mv_VE E (D + 7) k n 238 0 [some (.ref 148), some (.int x), some (.int y), none, none, none, none] [] h Q := by
  have f0 := fM.of e
  apply sg238_0
  unfold v_judge at H
  refine mx_cdb _ (bn_w 3 (by omega) rfl) (fun a => ?_) (fun a => ?_)
  · have a : bn y 4 = true := a
    rw [a, cond_true] at H
    refine cw239 f0 ⟨_, rfl, ?_⟩
    refine mx_if (fun q => ?_) (fun q => ?_)
    · rw [if_pos q] at H
      obtain ⟨t, ht, rfl, mm, hm, em⟩ := v_nt0 m q
      rw [nI_clamp (n := t) (by omega)] at H
      have et : sp_tl V t = sp_tell (fun k => vNu V (40 * t + k)) mm 0 (vA V) := by unfold sp_tl; rw [em, nI_clamp (by omega)]
      rw [et] at H
      obtain ⟨s1, m1⟩ := sp_tell_inv (V := V) (nu := fun k => vNu V (40 * t + k)) mm 0 (vA V) (fun _ _ => rfl) m
      have wl := sp_tell_w (nu := fun k => vNu V (40 * t + k)) mm 0 (vA V)
      have kl := sp_tell_k (nu := fun k => vNu V (40 * t + k)) mm 0 (vA V)
      refine cw227 f0 (fun h1 f1 g1 => ⟨rfl, ?_⟩)
      refine cw240 t mm f1 m ht hm em rfl (fun h2 f2 e19 e155 => ⟨_, rfl, ?_⟩)
      have eh : mv_I h2 149 65 = nI (sp_hold (sp_tell (fun k => vNu V (40 * t + k)) mm 0 (vA V)).1) := by rw [f2.A]; exact m1.1.1.hold.1
      refine ct220 (sp_hold (sp_tell (fun k => vNu V (40 * t + k)) mm 0 (vA V)).1) (by rw [f2.A]; exact m1.ok) (Nat.lt_of_lt_of_le m1.1.1.hold.2 m1.p2) eh (fun h3 fr3 => ⟨_, rfl, ?_⟩)
      have f3 := f2.s2 fr3
      rw [f2.A]
      refine cw243 f3 s1 (fun j hj => by rw [fr3.I 155 (fun _ => rfl), e155]; exact g1 j hj) (fun h4 f4 e4 => ⟨rfl, ?_⟩)
      have e19' : mv_I h4 148 19 = nI (sp_tell (fun k => vNu V (40 * t + k)) mm 0 (vA V)).2.2 := by rw [e4, fr3.I 148 (fun _ => rfl)]; exact e19
      rw [e19', mx_224]
      have H := H h4 f4
      refine mx_if (fun w => ?_) (fun w => mx_if (fun w2 => ?_) (fun w2 => mx_if (fun w3 => ?_) (fun w3 => ?_)))
      · rw [if_pos w] at H
        refine mx_eq (sp_tell (fun k => vNu V (40 * t + k)) mm 0 (vA V)).2.2 0 (fun z => ?_) (fun z => ?_) (by omega) (by omega)
        · rw [if_pos z] at H; exact H
        · rw [if_neg z] at H; exact H
      · rw [if_neg w, if_pos w2] at H; exact H
      · rw [if_neg w, if_neg w2, if_pos w3] at H; exact H
      · rw [if_neg w, if_neg w2, if_neg w3] at H; exact H
    · rw [if_neg q] at H; exact H _ f0
  · have a : bn y 4 = false := a
    rw [a] at H; exact H _ f0
-- perform
def mx_sY (a k : Nat) : Bool := (Nat.ble 81 a && Nat.ble a 93) || (Nat.beq a 50 && Nat.beq k 16)
theorem mx_sYf {a k : Nat} (h : (a < 81 ∨ 93 < a) ∧ (a ≠ 50 ∨ k ≠ 16)) : mx_sY a k = false := by
  have bl : (Nat.ble 81 a && Nat.ble a 93) = false := by
    cases z : Nat.ble 81 a with
    | false => rfl
    | true =>
      cases z2 : Nat.ble a 93 with
      | false => rfl
      | true =>
        have := Nat.le_of_ble_eq_true z
        have := Nat.le_of_ble_eq_true z2
        omega
  unfold mx_sY
  rw [bl]
  rcases h.2 with c | c
  · rw [mv_bne c]; rfl
  · rw [mv_bne c, Bool.and_false]; rfl
theorem mx_sYt {a k : Nat} (h : (81 ≤ a ∧ a ≤ 93) ∨ (a = 50 ∧ k = 16)) : mx_sY a k = true := by
  unfold mx_sY
  rcases h with h | h
  · rw [Nat.ble_eq_true_of_le h.1, Nat.ble_eq_true_of_le h.2]; rfl
  · rw [h.1, h.2]; rfl
theorem mx_sYof {S : Nat → Nat → Bool} {h h' : mv_H} (z : mx_fz S h h') (hS : ∀ a k, (a < 81 ∨ 93 < a) ∧ (a ≠ 50 ∨ k ≠ 16) → S a k = false) : mx_fz mx_sY h h' := z.to (fun a k q => hS a k (by
  by_cases c : (81 ≤ a ∧ a ≤ 93) ∨ (a = 50 ∧ k = 16)
  · rw [mx_sYt c] at q; cases q
  · omega))
theorem mx_sYX {h h' : mv_H} (z : mx_fz (mx_sX 81) h h') : mx_fz mx_sY h h' := mx_sYof z (fun a k q => mx_sXf (by omega))
theorem mx_sYD {h h' : mv_H} (z : mx_fz mx_sY h h') : mx_fz mx_sD h h' := z.to (fun a k q => mx_sYf (by
  refine ⟨?_, ?_⟩
  · rcases Nat.lt_or_ge a 81 with c | c
    · exact Or.inl c
    · rcases Nat.lt_or_ge 93 a with d | d
      · exact Or.inr d
      · exfalso
        unfold mx_sD at q
        rw [Nat.ble_eq_true_of_le c, Nat.ble_eq_true_of_le (show a ≤ 96 by omega)] at q
        cases q
  · by_cases c : a = 50
    · by_cases d : k = 16
      · subst c; subst d; cases q
      · exact Or.inr d
    · exact Or.inl c))
def V_done (V : vw) (A : Nat → Int32) (c : Nat) : vw := if 0 < c then vw_A V (sp_note A (sp_was (vA V))) else V
theorem im_done {V : vw} {A : Nat → Int32} {c : Nat} (m : InvM V) (s : sp_now (vA V) A) (mA : InvM (vw_A V A)) : InvM (V_done V A c) := by
  unfold V_done
  by_cases q : 0 < c
  · rw [if_pos q]
    refine m.fin s ?_
    have := mA.1.1.2.1
    rw [show sp_P (vA (vw_A V A)) = sp_P A from rfl, s.P] at this
    exact this
  · rw [if_neg q]; exact m
/-- how a call ends that did some told deeds: the class -/
theorem c_done {E : mv_E} {D : Nat} {h h2 : mv_H} {Q : mv_Q} {V : vw} {A : Nat → Int32} (c : Nat) (i : InvC E h V) (m : InvM V) (hc : c < 2 ^ 31) (s : sp_now (vA V) A) (c0 : c = 0 → A = vA V) (f2 : mx_fz mx_sY h h2) (iv2 : se_iv E h2) (i81 : i_st h2 81 (sp_was A)) (i83 : i_st h2 83 (sp_was (vA V))) (H : ∀ h', InvC E h' (V_done V A c) → fCl h h' → Q (some (.int (nI c))) h') : if 0 < nI c then (mv_VE E (D + 5) 0 0 20 0 [some (.ref 109), some (.ref 83)] [] h2 (fun v h6 => v = none ∧ Q (some (.int (nI c))) h6)) else (Q (some (.int (nI c))) h2) := by
  have ip : i_past h2 (vA V) := i.1.1.2.2.fz f2 (fun a k q => mx_sYf (by omega))
  unfold V_done at H
  refine mx_lt 0 c (fun q => ?_) (fun q => ?_) (by omega) hc
  · rw [if_pos q] at H
    refine ct20 ip m.1.2.1 m.1.2.2.1 (Or.inr rfl) i83 (fun h3 f3 g3 => ⟨rfl, ?_⟩)
    have fz := (mx_sYD f2).tr (mx_sPD f3)
    refine H h3 ⟨InvC.fin i.1 m s fz ?_ g3, iv2.fz f3 (fun a k q => mx_sPsea q)⟩ (mx_sDfC fz)
    exact i81.fz f3 (fun k => mx_sPf (by omega)) (fun k => mx_sPf (by omega))
  · rw [if_neg (by omega)] at H
    have e := c0 (by omega)
    subst e
    refine H h2 ⟨?_, iv2⟩ (mx_sDfC (mx_sYD f2))
    exact i.1.deed (A' := vA V) m f2 (fun a k q => mx_sYf (by omega)) (fun _ _ => rfl) i81 ip
theorem InvC.crY {E : mv_E} {h h2 : mv_H} {V : vw} {A : Nat → Int32} (i : InvC0 E h V) (m : InvM V) (s : sp_now (vA V) A) (f2 : mx_fz mx_sY h h2) : cr_ok E h2 (mv_R h2 50 3) A := by
  rw [(f2.2.2 50 3 (mx_sYf (by omega))).2.2]
  exact (InvC.cr i m s).fz f2 (fun a k q => mx_sYf (by unfold cr_reg at q; omega))
def V_perform (V : vw) (x : Int32) : vw := if v_nt V x = 0 then V_done V (sp_tl V x.toNatClampNeg).1 (sp_tl V x.toNatClampNeg).2.1 else V
def v_perform (V : vw) (x : Int32) : Int32 := if v_nt V x = 0 then nI (sp_tl V x.toNatClampNeg).2.1 else v_nt V x
theorem im_perform {V : vw} {x : Int32} (m : InvM V) : InvM (V_perform V x) := by
  unfold V_perform
  by_cases q : v_nt V x = 0
  · rw [if_pos q]
    obtain ⟨s1, m1⟩ := sp_tell_inv (V := V) (nu := fun k => vNu V (40 * x.toNatClampNeg + k)) (vRm V x.toNatClampNeg).toNatClampNeg 0 (vA V) (fun _ _ => rfl) m
    exact im_done m s1 m1
  · rw [if_neg q]; exact m
theorem cc123 {E : mv_E} {D k n : Nat} {h : mv_H} {Q : mv_Q} {V : vw} {x : Int32} (i : InvC E h V) (m : InvM V) (H : ∀ h', InvC E h' (V_perform V x) → fCl h h' → Q (some (.int (v_perform V x))) h') : mv_VE E (D + 6) k n 123 0 [some (.ref 50), some (.int x), none, none] [] h Q := by
  apply sg123_0
  unfold V_perform v_perform v_nt at H
  refine mx_cdb _ (bn_119 x) (fun a => ?_) (fun a => ?_)
  · rw [a, cond_true] at H
    obtain ⟨t, ht, rfl⟩ := bnT (by omega) a
    rw [nI_clamp (n := t) (by omega)] at H
    rw [nI_clamp (n := t) (by omega), (ty_sh ht E h).1]
    refine mv_gdI (by rw [mx_in t ht (by omega)]; rfl) (mv_gdI rfl (ct86 t ht ⟨_, rfl, ?_⟩))
    rcases tr_cases (i.1.2.2.1 t ht) with ⟨b1, b2⟩ | ⟨so, mm, b1, b2, b3, b4, b5, b6, b7⟩
    · rw [b2, if_neg (by decide)]
      rw [if_pos b1, if_neg (by decide), if_neg (by decide)] at H
      exact H h i fCl.rf
    · have nso : ¬ nI so = -1 := mx_m1n (by omega)
      have nm : ¬ nI mm = -1 := mx_m1n (by omega)
      rw [b6, decide_eq_false nm, if_pos (by rfl)]
      have hv : (if vRs V t = -1 then (-6 : Int32) else 0) = 0 := by rw [b3, if_neg nso]
      rw [if_pos hv, if_pos hv] at H
      have et : sp_tl V t = sp_tell (fun k => vNu V (40 * t + k)) mm 0 (vA V) := by unfold sp_tl; rw [b5, nI_clamp (by omega)]
      rw [et] at H
      refine ct67 (Or.inr (Or.inl rfl)) (Or.inl rfl) (fun h1 f1 c1 c2 => ⟨rfl, ?_⟩)
      have g1 : mx_fz mx_sY h h1 := mx_sYof f1.z (fun a k q => by
        unfold mx_sx
        rw [mv_bne (by omega), mv_bne (by omega)]; rfl)
      have nw := InvC.now i.1
      have j1 : i_st h1 83 (sp_was (vA V)) := ⟨(c1 0 (by omega)).trans nw.1, (c1 1 (by omega)).trans nw.2.1, (c1 2 (by omega)).trans nw.2.2.1, fun p hp => (c2 p hp).trans (nw.2.2.2 p hp)⟩
      have n1 : i_st h1 81 (sp_was (vA V)) := nw.fz f1.z (fun k => rfl) (fun k => rfl)
      have iv1 : se_iv E h1 := i.2.fz f1.z (fun a k q => by
        unfold mx_sx
        rw [mv_bne (by unfold cr_reg at q; omega), mv_bne (by unfold cr_reg at q; omega)]; rfl)
      have key : ∀ f k' A h2, k' + f = mm → sp_now (vA V) A → InvM (vw_A V A) → mx_fz mx_sY h h2 → se_iv E h2 → i_st h2 81 (sp_was A) → i_st h2 83 (sp_was (vA V)) → (k' = 0 → A = vA V) → (∀ h', InvC E h' (V_done V (sp_tell (fun k => vNu V (40 * t + k)) f k' A).1 (sp_tell (fun k => vNu V (40 * t + k)) f k' A).2.1) → fCl h h' → Q (some (.int (nI (sp_tell (fun k => vNu V (40 * t + k)) f k' A).2.1))) h') → mv_VE E (D + 6) k n 123 40 [some (.ref 50), none, some (.ref (136 + 2 * t)), some (.int (nI k'))] [] h2 Q := by
        intro f
        induction f with
        | zero =>
          intro k' A h2 hk s mA f2 iv2 i2 i3 c0 K
          have e2 : mv_I h2 (136 + 2 * t) 2 = nI mm := by rw [f2.I _ (fun k => mx_sYf (by omega))]; exact b6
          apply sg123_40
          rw [(ty_sh ht E h2).1, e2]
          exact mv_gdI rfl (mx_ltF k' mm (by omega) (c_done k' i m (by omega) s c0 f2 iv2 i2 i3 K) (by omega))
        | succ f ih =>
          intro k' A h2 hk s mA f2 iv2 i2 i3 c0 K
          have e2 : mv_I h2 (136 + 2 * t) 2 = nI mm := by rw [f2.I _ (fun k => mx_sYf (by omega))]; exact b6
          have e3 : mv_J h2 (137 + 2 * t) k' = vNu V (40 * t + k') := by rw [(f2.2.2 _ k' (mx_sYf (by omega))).2.1]; exact b7 k' (by omega)
          unfold sp_tell at K
          apply sg123_40
          rw [(ty_sh ht E h2).1, e2]
          refine mv_gdI rfl (mx_ltT k' mm (by omega) (mv_gdI rfl (ct87 t k' ht (by omega) rfl ⟨_, rfl, ?_⟩)) (by omega))
          rw [e3]
          refine ct120 (Or.inl rfl) (InvC.crY i.1 m s f2) mA.1.1 iv2 i2 (fun w h3 f3 i3' iv3 => ⟨_, rfl, ?_⟩) (fun w => ⟨_, rfl, ?_⟩)
          · rw [if_pos w] at K
            rw [if_pos rfl, nI_1]
            obtain ⟨j, hj, -, ed⟩ := sp_whyD_l w
            rw [ed] at w i3' K
            exact ih (k' + 1) _ h3 (by omega) (s.tr (sp_doD_now A hj)) (mA.tell (V := vw_A V A) hj w) (f2.tr (mx_sYX f3)) iv3 i3' (i3.fz f3 (fun k => mx_sXf (by omega)) (fun k => mx_sXf (by omega))) (fun c => by omega) K
          · rw [if_neg w] at K
            have wl := sp_whyD_lt A (dn (vNu V (40 * t + k')))
            have w0 : ¬ nI (sp_whyD A (dn (vNu V (40 * t + k')))) = 0 := nI_ne0 (by omega) (by omega)
            rw [if_neg w0]
            exact c_done k' i m (by omega) s c0 f2 iv2 i2 i3 K
      exact key mm 0 (vA V) h1 (by omega) (fun _ _ => rfl) m g1 iv1 n1 j1 (fun _ => rfl) H
  · rw [a, cond_false, if_neg (by decide), if_neg (by decide)] at H
    exact H h i fCl.rf
theorem cm_done {E : mv_E} {D : Nat} {h h2 : mv_H} {Q : mv_Q} {V : vw} {A : Nat → Int32} (c : Nat) (m : InvM V) (hc : c < 2 ^ 31) (s : sp_now (vA V) A) (c0 : c = 0 → A = vA V) (f2 : fM (vw_A V A) h h2) (e155 : ∀ j, j < 11 → mv_I h2 155 j = vA V (65 + j)) (H : ∀ h', fM (V_done V A c) h h' → Q (some (.int (nI c))) h') : if 0 < nI c then (mv_VE E (D + 5) 0 0 230 0 [some (.ref 148), none] [] h2 (fun v h4 => v = none ∧ Q (some (.int (nI c))) h4)) else (Q (some (.int (nI c))) h2) := by
  unfold V_done at H
  refine mx_lt 0 c (fun q => ?_) (fun q => ?_) (by omega) hc
  · rw [if_pos q] at H
    refine cw230 (sp_was (vA V)) f2 ?_ ?_ e155 (fun h3 f3 g3 => ⟨rfl, H h3 f3⟩)
    · show A 76 = nI (sp_d A)
      rw [s.d, s 76 (by omega)]; exact m.1.2.1
    · show sp_d A ≤ 10
      rw [s.d]; exact m.1.2.2.1
  · rw [if_neg (by omega)] at H
    have e := c0 (by omega)
    subst e
    exact H h2 f2
theorem cm244 {E : mv_E} {D k n : Nat} {h : mv_H} {Q : mv_Q} {V : vw} {x : Int32} (e : vw_of h = V) (m : InvM V) (H : ∀ h', fM (V_perform V x) h h' → Q (some (.int (v_perform V x))) h') : mv_VE E (D + 7) k n 244 0 [some (.ref 148), some (.int x), none, none] [] h Q := by
  have f0 := fM.of e
  apply sg244_0
  unfold V_perform v_perform at H
  refine cw239 f0 ⟨_, rfl, ?_⟩
  refine mx_if (fun q => ?_) (fun q => ?_)
  · rw [if_pos q, if_pos q] at H
    obtain ⟨t, ht, rfl, mm, hm, em⟩ := v_nt0 m q
    rw [nI_clamp (n := t) (by omega)] at H
    have et : sp_tl V t = sp_tell (fun k => vNu V (40 * t + k)) mm 0 (vA V) := by unfold sp_tl; rw [em, nI_clamp (by omega)]
    rw [et] at H
    obtain ⟨s1, m1⟩ := sp_tell_inv (V := V) (nu := fun k => vNu V (40 * t + k)) mm 0 (vA V) (fun _ _ => rfl) m
    have kl := sp_tell_k (nu := fun k => vNu V (40 * t + k)) mm 0 (vA V)
    refine cw227 f0 (fun h1 f1 g1 => ⟨rfl, ?_⟩)
    refine cw240 t mm f1 m ht hm em rfl (fun h2 f2 e19 e155 => ⟨_, rfl, ?_⟩)
    exact cm_done (D := D + 1) _ m (by omega) s1 kl.2.2 f2 (fun j hj => by rw [e155]; exact g1 j hj) H
  · rw [if_neg q, if_neg q] at H; exact H _ f0
