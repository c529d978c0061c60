/-! Calls: bearings, storms. -/
def sp_al (c : Nat → Bool) : Nat → Nat → Bool
  | 0, _ => true
  | f + 1, i => c i && sp_al c f (i + 1)
theorem sp_alT {c : Nat → Bool} : ∀ f i, sp_al c f i = true → ∀ j, i ≤ j → j < i + f → c j = true
  | 0, i, _, j, h1, h2 => by omega
  | f + 1, i, h, j, h1, h2 => by
    unfold sp_al at h
    rw [Bool.and_eq_true] at h
    rcases (by omega : j = i ∨ i + 1 ≤ j) with q | q
    · rw [q]; exact h.1
    · exact sp_alT f (i + 1) h.2 j q (by omega)
def tk_top (A : Nat → Int32) : Nat := 2 * (2 ^ sp_P A - 1) + 1
def tk_ok (A : Nat → Int32) (v : Int64) : Bool := !decide (v < 0) && !decide (lN (tk_top A) < v)
theorem tk_T {A : Nat → Int32} {v : Int64} (p8 : sp_P A ≤ 8) (h : tk_ok A v = true) : ∃ q, q < 512 ∧ q / 2 < 2 ^ sp_P A ∧ v = lN q := by
  have p2 := mx_p2 p8
  have p1 : 0 < 2 ^ sp_P A := Nat.pow_pos (by omega)
  unfold tk_ok at h
  simp only [Bool.and_eq_true, Bool.not_eq_true', decide_eq_false_iff_not] at h
  obtain ⟨q, hq, rfl⟩ := pk_lOf h.1
  have h2 := h.2
  unfold tk_top at h2
  rw [pk_lLT (by omega) hq] at h2
  exact ⟨q, by omega, by omega, rfl⟩
def v_nts (V : vw) (x : Int32) : Int32 := if v_nt V x = 0 then (if 1 ≤ (vRm V x.toNatClampNeg).toNatClampNeg ∧ (vRm V x.toNatClampNeg).toNatClampNeg ≤ 8 then cond (sp_al (fun i => tk_ok (vA V) (vNu V (40 * x.toNatClampNeg + i))) (vRm V x.toNatClampNeg).toNatClampNeg 0) 0 (-3) else -4) else v_nt V x
theorem v_nts0 {V : vw} {x : Int32} (m : InvM V) (h : v_nts V x = 0) : ∃ t, t < 4 ∧ x = nI t ∧ ∃ mm, mm ≤ 8 ∧ vRm V t = nI mm ∧ vRs V t ≠ -1 ∧ ∀ j, j < mm → ∃ q, q < 512 ∧ q / 2 < 2 ^ sp_P (vA V) ∧ vNu V (40 * t + j) = lN q := by
  unfold v_nts at h
  by_cases q : v_nt V x = 0
  · rw [if_pos q] at h
    obtain ⟨t, ht, rfl, mm, hm, em⟩ := v_nt0 m q
    rw [nI_clamp (n := t) (by omega), em, nI_clamp (n := mm) (by omega)] at h
    by_cases c : 1 ≤ mm ∧ mm ≤ 8
    · rw [if_pos c] at h
      cases z : sp_al (fun i => tk_ok (vA V) (vNu V (40 * t + i))) mm 0 with
      | false => rw [z] at h; exact absurd h (by decide)
      | true =>
        refine ⟨t, ht, rfl, mm, c.2, em, fun w => ?_, fun j hj => tk_T m.p8 (sp_alT mm 0 z j (by omega) (by omega))⟩
        unfold v_nt at q
        rw [nI_clamp (n := t) (by omega)] at q
        cases a : bn (nI t) 4 with
        | false => rw [a, cond_false] at q; exact absurd q (by decide)
        | true => rw [a, cond_true, if_pos w] at q; exact absurd q (by decide)
    · rw [if_neg c] at h; exact absurd h (by decide)
  · rw [if_neg q] at h; exact absurd h q
theorem v_nts2 {V : vw} {x : Int32} (h : bn x 4 = false) : v_nts V x = -2 := by
  unfold v_nts v_nt
  rw [h, cond_false, if_neg (by decide)]
-- the class refuses tests
theorem cc156 {E : mv_E} {D k n : Nat} {h : mv_H} {Q : mv_Q} {V : vw} {x y : Int32} (b : Bool) (i : InvC0 E h V) (m : InvM V) (ey : y = nI b.toNat) (H : Q (some (.int (cond b (v_nts V x) (-2)))) h) : mv_VE E (D + 1) k n 156 0 [some (.ref 50), some (.int x), some (.int y), none, none, none, none] [] h Q := by
  subst ey
  apply sg156_0
  refine mx_cdb _ (bn_119 x) (fun a => ?_) (fun a => ?_)
  · refine mx_ifB b (fun z => ?_) (fun z => ?_)
    · rw [z] at H; exact H
    rw [z, cond_true] at H
    unfold v_nts v_nt at H
    rw [a, cond_true] at H
    obtain ⟨t, ht, rfl⟩ := bnT (by omega) a
    rw [nI_clamp (n := t) (by omega)] at H
    rw [nI_clamp (n := t) (by omega), (ty_sh ht E h).1]
    refine mv_gdI (by rw [mx_in t ht (by omega)]; rfl) (mv_gdI rfl (ct86 t ht ⟨_, rfl, ?_⟩))
    rcases tr_cases (i.2.2.1 t ht) with ⟨b1, b2⟩ | ⟨so, mm, b1, b2, b3, b4, b5, b6, b7⟩
    · rw [b2, if_neg (by decide)]
      rw [if_pos b1, if_neg (by decide)] at H
      exact H
    · have nso : ¬ nI so = -1 := mx_m1n (by omega)
      have nm : ¬ nI mm = -1 := mx_m1n (by omega)
      rw [b6, decide_eq_false nm, if_pos (by rfl), (ty_sh ht E h).1]
      have hv : (if vRs V t = -1 then (-6 : Int32) else 0) = 0 := by rw [b3, if_neg nso]
      rw [if_pos hv, b5, nI_clamp (n := mm) (by omega)] at H
      refine mv_gdI rfl (mx_lt mm 1 (fun w => ?_) (fun w => ?_) (by omega) (by omega))
      · rw [if_neg (by omega)] at H; exact H
      refine mv_gdI rfl (mx_lt 8 mm (fun w2 => ?_) (fun w2 => ?_) (by omega) (by omega))
      · rw [if_neg (by omega)] at H; exact H
      rw [if_pos (by omega)] at H
      rw [i.1.1.1.1.2.1]
      refine mv_gdI rfl (ct29 i.1.1.1 m.ok ⟨_, rfl, ?_⟩)
      have p2 := m.p2
      have p1 : 0 < 2 ^ sp_P (vA V) := Nat.pow_pos (by omega)
      have etop : (2 : Int64) * (nI (2 ^ sp_P (vA V) - 1)).toInt64 + 1 = lN (tk_top (vA V)) := by
        rw [nI_l (by omega), show (2 : Int64) * lN (2 ^ sp_P (vA V) - 1) = lN (2 * (2 ^ sp_P (vA V) - 1)) from lN_mul 2 _, lN_1]
        rfl
      rw [etop]
      have key : ∀ f j, j + f = mm → Q (some (.int (cond (sp_al (fun i => tk_ok (vA V) (vNu V (40 * t + i))) f j) 0 (-3)))) h → mv_VE E (D + 1) k n 156 70 [none, none, none, some (.ref (136 + 2 * t)), some (.long (lN (tk_top (vA V)))), none, some (.int (nI j))] [] h Q := by
        intro f
        induction f with
        | zero =>
          intro j hj K
          apply sg156_70
          rw [(ty_sh ht E h).1, b6]
          exact mv_gdI rfl (mx_ltF j mm (by omega) K (by omega))
        | succ f ih =>
          intro j hj K
          unfold sp_al at K
          apply sg156_70
          rw [(ty_sh ht E h).1, b6]
          refine mv_gdI rfl (mx_ltT j mm (by omega) (mv_gdI rfl (ct87 t j ht (by omega) rfl ⟨_, rfl, ?_⟩)) (by omega))
          rw [b7 j (by omega)]
          have et : tk_ok (vA V) (vNu V (40 * t + j)) = (!decide (vNu V (40 * t + j) < 0) && !decide (lN (tk_top (vA V)) < vNu V (40 * t + j))) := rfl
          refine mx_if (fun w => ?_) (fun w => ?_)
          · rw [lg_cmp_lt] at w
            rw [et, decide_eq_true w] at K; exact K
          · rw [lg_cmp_lt] at w
            rw [(ty_sh ht E h).1]
            refine mv_gdI rfl (ct87 t j ht (by omega) rfl ⟨_, rfl, ?_⟩)
            rw [b7 j (by omega)]
            refine mx_if (fun w2 => ?_) (fun w2 => ?_)
            · rw [lg_cmp_gt] at w2
              rw [et, decide_eq_false w, decide_eq_true w2] at K; exact K
            · rw [lg_cmp_gt] at w2
              rw [et, decide_eq_false w, decide_eq_false w2] at K
              rw [nI_1]
              exact ih (j + 1) (by omega) K
      exact key mm 0 (by omega) H
  · cases b with
    | false => exact H
    | true => rw [cond_true, v_nts2 a] at H; exact H
theorem cw279 {E : mv_E} {D k n : Nat} {h0 h : mv_H} {Q : mv_Q} {V : vw} {x : Int32} (f : fM V h0 h) (m : InvM V) (H : Q (some (.int (v_nts V x))) h) : mv_VE E (D + 2) k n 279 0 [some (.ref 148), some (.int x), none, none] [] h Q := by
  have p2 := m.p2
  have p1 : 0 < 2 ^ sp_P (vA V) := Nat.pow_pos (by omega)
  apply sg279_0
  unfold v_nts at H
  refine cw239 f ⟨_, rfl, mx_if (fun q => ?_) (fun q => ?_)⟩
  · rw [if_pos q] at H
    obtain ⟨t, ht, rfl, mm, hm, em⟩ := v_nt0 m q
    rw [nI_clamp (n := t) (by omega), em, nI_clamp (n := mm) (by omega)] at H
    have e3 : mv_I h 163 t = nI mm := by
      rw [show mv_I h 163 = vRm (vw_of h) from rfl, f.2]; exact em
    have eJ : ∀ j, mv_J h 164 j = vNu V j := fun j => by
      rw [show mv_J h 164 = vNu (vw_of h) from rfl, f.2]
    have i4 : (true && mv_in (nI t) 4) = true := mx_inT t ht (by omega)
    rw [nI_clamp (n := t) (by omega), e3, nI_l (by omega), show pf182 (lN mm) 1 8 = (decide (1 ≤ mm) && decide (mm ≤ 8)) from w182 (l := 1) (u := 8) (by omega) (by omega) (by omega)]
    refine mv_gdI i4 ?_
    by_cases c : 1 ≤ mm ∧ mm ≤ 8
    · rw [decide_eq_true c.1, decide_eq_true c.2, Bool.and_true, cond_true]
      rw [if_pos c] at H
      have etop : ((2 : Int32) * pf219 h + 1).toInt64 = lN (tk_top (vA V)) := by
        rw [cw219 f m, show (2 : Int32) * nI (2 ^ sp_P (vA V) - 1) = nI (2 * (2 ^ sp_P (vA V) - 1)) from pk_mul 2 _, nI_1, nI_l (by omega)]
        rfl
      have key : ∀ f' j, j + f' = mm → Q (some (.int (cond (sp_al (fun i => tk_ok (vA V) (vNu V (40 * t + i))) f' j) 0 (-3)))) h → mv_VE E (D + 2) k n 279 34 [some (.ref 148), some (.int (nI t)), none, some (.int (nI j))] [] h Q := by
        intro f'
        induction f' with
        | zero =>
          intro j hj K
          apply sg279_34
          rw [nI_clamp (n := t) (by omega), e3]
          exact mv_gdI i4 (mx_ltF j mm (by omega) K (by omega))
        | succ f' ih =>
          intro j hj K
          unfold sp_al at K
          apply sg279_34
          rw [nI_clamp (n := t) (by omega), e3, show (40 : Int32) * nI t = nI (40 * t) from pk_mul 40 t, nI_add, nI_clamp (n := 40 * t + j) (by omega), eJ, etop, nI_1]
          refine mv_gdI i4 (mx_ltT j mm (by omega) (mv_gdI (mx_inT (40 * t + j) (by omega) (by omega)) ?_) (by omega))
          have et : pf182 (vNu V (40 * t + j)) 0 (lN (tk_top (vA V))) = tk_ok (vA V) (vNu V (40 * t + j)) := by
            unfold pf182 tk_ok
            have h1 := lg_cmp_lt (vNu V (40 * t + j)) 0
            have h2 := lg_cmp_gt (vNu V (40 * t + j)) (lN (tk_top (vA V)))
            by_cases w : vNu V (40 * t + j) < 0
            · rw [if_pos (h1.mpr w), decide_eq_true w]; rfl
            · rw [if_neg (fun z => w (h1.mp z)), decide_eq_false w]
              by_cases w2 : lN (tk_top (vA V)) < vNu V (40 * t + j)
              · rw [if_pos (h2.mpr w2), decide_eq_true w2]; rfl
              · rw [if_neg (fun z => w2 (h2.mp z)), decide_eq_false w2]; rfl
          refine mx_cdb _ et (fun z => ?_) (fun z => ?_)
          · rw [z, Bool.true_and] at K
            exact ih (j + 1) (by omega) K
          · rw [z, Bool.false_and] at K; exact K
      exact key mm 0 (by omega) H
    · rw [if_neg c] at H
      have : (decide (1 ≤ mm) && decide (mm ≤ 8)) = false := by
        by_cases d : 1 ≤ mm
        · rw [decide_eq_false (show ¬ mm ≤ 8 by omega), Bool.and_false]
        · rw [decide_eq_false d]; rfl
      rw [this]; exact H
  · rw [if_neg q] at H; exact H
-- how tests fit
def qv (v : Int64) : Nat := v.toInt32.toNatClampNeg
theorem qv_n {q : Nat} (h : q < 2 ^ 31) : qv (lN q) = q := by unfold qv; rw [lN_i, nI_clamp h]
def sp_ft (A : Nat → Int32) (nu : Nat → Int64) (mm : Nat) : Bool := sp_al (fun i => sp_float A (qv (nu i) / 2) == decide (qv (nu i) % 2 = 1)) mm 0
def mx_sV (a _ : Nat) : Bool := Nat.ble 87 a && Nat.ble a 93
theorem mx_sVf {a k : Nat} (h : a < 87 ∨ 93 < a) : mx_sV a k = false := by
  unfold mx_sV
  cases z : Nat.ble 87 a with
  | false => rfl
  | true =>
    cases z2 : Nat.ble a 93 with
    | false => rfl
    | true =>
      have := Nat.le_of_ble_eq_true z
      have := Nat.le_of_ble_eq_true z2
      omega
theorem mx_sVof {S : Nat → Nat → Bool} {h h' : mv_H} (z : mx_fz S h h') (hS : ∀ a k, (a < 87 ∨ 93 < a) → S a k = false) : mx_fz mx_sV h h' := z.to (fun a k q => hS a k (by
  by_cases c : 87 ≤ a ∧ a ≤ 93
  · unfold mx_sV at q
    rw [Nat.ble_eq_true_of_le c.1, Nat.ble_eq_true_of_le c.2] at q; cases q
  · omega))
theorem mx_sVX {h h' : mv_H} (z : mx_fz mx_sV h h') : mx_fz (mx_sX 85) h h' := mx_sXof z (fun a k q => mx_sVf q.2.2)
theorem mx_q1 : ∀ q, q < 512 → nI q >>> (1 &&& 31 : Int32) = nI (q / 2) ∧ nI q &&& 1 = nI (q % 2) := by decide +kernel
/-- the class holds tests against the state tried -/
theorem ct158 {E : mv_E} {D k n : Nat} {h : mv_H} {Q : mv_Q} {A : Nat → Int32} {nu : Nat → Int64} (t mm : Nat) (ht : t < 4) (hm : mm ≤ 40) (cr : cr_ok E h (mv_R h 50 3) A) (m : m_ok A) (iv : se_iv E h) (ix : i_st h 85 (sp_was A)) (e2 : mv_I h (136 + 2 * t) 2 = nI mm) (eJ : ∀ j, j < mm → mv_J h (137 + 2 * t) j = nu j) (hq : ∀ j, j < mm → ∃ q, q < 512 ∧ q / 2 < 2 ^ sp_P A ∧ nu j = lN q) (H : ∀ h', mx_fz mx_sV h h' → se_iv E h' → Q (some (.int (nI (sp_ft A nu mm).toNat))) h') : mv_VE E (D + 4) k n 158 0 [some (.ref 50), some (.ref (136 + 2 * t)), none, none] [] h Q := by
  apply sg158_0
  refine ct51 iv (st_adD (Or.inr rfl)) (by omega) cr m.1 (i_st.as ix) (fun h1 f1 se1 => ⟨rfl, ?_⟩)
  have g1 : mx_fz mx_sV h h1 := mx_sVof f1 (fun a k q => mx_s6f (by omega))
  have key : ∀ f j h2, j + f = mm → mx_fz mx_sV h h2 → se_at E h2 A → (∀ h', mx_fz mx_sV h h' → se_iv E h' → Q (some (.int (nI (sp_al (fun i => sp_float A (qv (nu i) / 2) == decide (qv (nu i) % 2 = 1)) f j).toNat))) h') → mv_VE E (D + 4) k n 158 17 [some (.ref 50), some (.ref (136 + 2 * t)), some (.int (nI j)), none] [] h2 Q := by
    intro f
    induction f with
    | zero =>
      intro j h2 hj f2 se2 K
      apply sg158_17
      rw [(ty_sh ht E h2).1, f2.I _ (fun k => mx_sVf (by omega)), e2]
      exact mv_gdI rfl (mx_ltF j mm (by omega) (K h2 f2 ⟨A, m.1, se2⟩) (by omega))
    | succ f ih =>
      intro j h2 hj f2 se2 K
      obtain ⟨q, q1, q2, eq⟩ := hq j (by omega)
      have eqv : qv (nu j) = q := by rw [eq, qv_n (by omega)]
      unfold sp_al at K
      rw [eqv] at K
      apply sg158_17
      rw [(ty_sh ht E h2).1, f2.I _ (fun k => mx_sVf (by omega)), e2]
      refine mv_gdI rfl (mx_ltT j mm (by omega) (mv_gdI rfl (ct87 t j ht (by omega) rfl ⟨_, rfl, ?_⟩)) (by omega))
      rw [(f2.2.2 _ j (mx_sVf (by omega))).2.1, eJ j (by omega), eq, lN_i, (mx_q1 q q1).1, (mx_q1 q q1).2, nI_1]
      refine ct57 (q / 2) se2 m.1 m.vb q2 rfl (fun h3 f3 se3 => ⟨_, rfl, ?_⟩)
      have g3 : mx_fz mx_sV h h3 := f2.tr (mx_sVof f3.z (fun a k q => mx_s5f (by omega)))
      have bad : (sp_float A (q / 2) == decide (q % 2 = 1)) = false → Q (some (.int 0)) h3 := fun z => by
        have K := K h3 g3 ⟨A, m.1, se3⟩
        rw [z, Bool.false_and] at K; exact K
      have good : (sp_float A (q / 2) == decide (q % 2 = 1)) = true → mv_VE E (D + 4) k n 158 17 [some (.ref 50), some (.ref (136 + 2 * t)), some (.int (nI (j + 1))), none] [] h3 Q := fun z => by
        rw [z] at K
        exact ih (j + 1) h3 (by omega) g3 se3 (fun h' a b => by
          have K := K h' a b
          rw [Bool.true_and] at K; exact K)
      refine mx_eq (q % 2) 1 (fun w => ?_) (fun w => ?_) (by omega) (by omega)
      · rw [decide_eq_true w] at good bad
        cases z : sp_float A (q / 2) with
        | false => rw [z] at bad; rw [if_neg (by decide)]; exact bad rfl
        | true => rw [z] at good; rw [if_pos (by rfl)]; exact good rfl
      · rw [decide_eq_false w] at good bad
        cases z : sp_float A (q / 2) with
        | false => rw [z] at good; rw [if_pos (by rfl)]; exact good rfl
        | true => rw [z] at bad; rw [if_neg (by decide)]; exact bad rfl
  exact key mm 0 h1 (by omega) g1 se1 H
theorem mx_q2 : ∀ q, q < 512 → nI q / 2 = nI (q / 2) ∧ nI q - nI q / 2 * 2 = nI (q % 2) := by decide +kernel
theorem cw281 {E : mv_E} {D k n : Nat} {h0 h : mv_H} {Q : mv_Q} {V : vw} {x : Int32} (t mm : Nat) (f : fM V h0 h) (m : InvM V) (ht : t < 4) (hm : mm ≤ 40) (em : vRm V t = nI mm) (hq : ∀ j, j < mm → ∃ q, q < 512 ∧ q / 2 < 2 ^ sp_P (vA V) ∧ vNu V (40 * t + j) = lN q) (e : x = nI t) (H : ∀ h', fM V h0 h' → Q (some (.int (nI (sp_ft (vA V) (fun j => vNu V (40 * t + j)) mm).toNat))) h') : mv_VE E (D + 4) k n 281 0 [some (.ref 148), some (.int x), none, none] [] h Q := by
  subst e
  have p2 := m.p2
  apply sg281_0
  have i4 : (true && mv_in (nI t) 4) = true := mx_inT t ht (by omega)
  have key : ∀ f' j h2, j + f' = mm → fM V h0 h2 → (∀ h', fM V h0 h' → Q (some (.int (nI (sp_al (fun i => sp_float (vA V) (qv (vNu V (40 * t + i)) / 2) == decide (qv (vNu V (40 * t + i)) % 2 = 1)) f' j).toNat))) h') → mv_VE E (D + 4) k n 281 2 [some (.ref 148), some (.int (nI t)), some (.int (nI j)), none] [] h2 Q := by
    intro f'
    induction f' with
    | zero =>
      intro j h2 hj f2 K
      have e3 : mv_I h2 163 t = nI mm := by
        rw [show mv_I h2 163 = vRm (vw_of h2) from rfl, f2.2]; exact em
      apply sg281_2
      rw [nI_clamp (n := t) (by omega), e3]
      exact mv_gdI i4 (mx_ltF j mm (by omega) (K h2 f2) (by omega))
    | succ f' ih =>
      intro j h2 hj f2 K
      have e3 : mv_I h2 163 t = nI mm := by
        rw [show mv_I h2 163 = vRm (vw_of h2) from rfl, f2.2]; exact em
      have eJ : ∀ j, mv_J h2 164 j = vNu V j := fun j => by
        rw [show mv_J h2 164 = vNu (vw_of h2) from rfl, f2.2]
      obtain ⟨q, q1, q2, eq⟩ := hq j (by omega)
      have eqv : qv (vNu V (40 * t + j)) = q := by rw [eq, qv_n (by omega)]
      unfold sp_al at K
      rw [eqv] at K
      apply sg281_2
      rw [nI_clamp (n := t) (by omega), e3, show (40 : Int32) * nI t = nI (40 * t) from pk_mul 40 t, nI_add, nI_clamp (n := 40 * t + j) (by omega), eJ, eq, lN_i, (mx_q2 q q1).2, (mx_q2 q q1).1, nI_1]
      refine mv_gdI i4 (mx_ltT j mm (by omega) (mv_gdI (mx_inT (40 * t + j) (by omega) (by omega)) ?_) (by omega))
      refine cw220 (q / 2) f2 m (by omega) rfl (fun h3 f3 => ⟨_, rfl, ?_⟩)
      rw [mx_224]
      have hb := mx_tn (sp_float (vA V) (q / 2))
      refine mx_eq (sp_float (vA V) (q / 2)).toNat (q % 2) (fun w => ?_) (fun w => ?_) (by omega) (by omega)
      · have z : (sp_float (vA V) (q / 2) == decide (q % 2 = 1)) = true := by
          rw [← w]
          cases sp_float (vA V) (q / 2) <;> rfl
        refine ih (j + 1) h3 (by omega) f3 (fun h' a => ?_)
        have K := K h' a
        rw [z, Bool.true_and] at K; exact K
      · have z : (sp_float (vA V) (q / 2) == decide (q % 2 = 1)) = false := by
          have : q % 2 < 2 := Nat.mod_lt _ (by omega)
          cases c : sp_float (vA V) (q / 2) <;> rw [c] at w
          · rw [decide_eq_true (show q % 2 = 1 by simp at w; omega)]; rfl
          · rw [decide_eq_false (show ¬ q % 2 = 1 by simp at w; omega)]; rfl
        have K := K h3 f3
        rw [z, Bool.false_and] at K; exact K
  exact key mm 0 h (by omega) f H
-- what changes at one place of the state
def sp_bb (A : Nat → Int32) (c : Nat) (nu : Nat → Int64) (mm : Nat) : Nat → Nat := mx_fold (fun b a => a ||| cond (sp_ft (mx_upA A c (nI b)) nu mm) (2 ^ b) 0) 0
theorem mx_upAA (A : Nat → Int32) (c : Nat) (x y : Int32) : mx_upA (mx_upA A c x) c y = mx_upA A c y := funext fun k => by
  unfold mx_upA
  by_cases q : k = c
  · rw [if_pos q, if_pos q]
  · rw [if_neg q, if_neg q, if_neg q]
theorem mx_upAid (A : Nat → Int32) (c : Nat) : mx_upA A c (A c) = A := funext fun k => by
  unfold mx_upA
  by_cases q : k = c
  · rw [if_pos q, q]
  · rw [if_neg q]
theorem InvM.up {V : vw} {c b : Nat} (m : InvM V) (hc : (∃ p, p < 8 ∧ c = 66 + p) ∨ c = 74) (hb : b < 10) : InvM (vw_A V (mx_upA (vA V) c (nI b))) := m.nowd (sp_now.up (by omega) (by omega)) (m_st_up m.1.1.2.1 hc (sp_dg_n hb))
def v_bearings (V : vw) (x y : Int32) : Int32 := cond (bn x 4 && pn (vA V) y) (if v_nts V x = 0 then nI (sp_bb (vA V) (66 + y.toNatClampNeg) (fun j => vNu V (40 * x.toNatClampNeg + j)) (vRm V x.toNatClampNeg).toNatClampNeg 10) else v_nts V x) (-2)
def v_storms (V : vw) (x : Int32) : Int32 := if v_nts V x = 0 then nI (sp_bb (vA V) 74 (fun j => vNu V (40 * x.toNatClampNeg + j)) (vRm V x.toNatClampNeg).toNatClampNeg 10) else v_nts V x
theorem st85_up {h : mv_H} {A : Nat → Int32} {p : Nat} {y : Int32} (hp : p < 8) (i : i_st h 85 (sp_was A)) : i_st (mv_sI h 86 p y) 85 (sp_was (mx_upA A (66 + p) y)) := by
  refine ⟨?_, ?_, ?_, fun l hl => ?_⟩
  · rw [mx_InE (by omega), i.1]
    show A 65 = mx_upA A (66 + p) _ 65
    unfold mx_upA
    rw [if_neg (by omega)]
  · rw [mx_InE (by omega), i.2.1]
    show A 74 = mx_upA A (66 + p) _ 74
    unfold mx_upA
    rw [if_neg (by omega)]
  · rw [mx_InE (by omega), i.2.2.1]
    show A 75 = mx_upA A (66 + p) _ 75
    unfold mx_upA
    rw [if_neg (by omega)]
  · show mv_I (mv_sI h 86 p _) 86 l = mx_upA A (66 + p) _ (65 + (1 + l))
    unfold mx_upA
    rw [mx_upI]
    by_cases c : l = p
    · rw [if_pos ⟨rfl, c⟩, if_pos (by omega)]
    · rw [if_neg (fun d => c d.2), if_neg (by omega)]; exact i.2.2.2 l hl
theorem st85_stm {h : mv_H} {A : Nat → Int32} {y : Int32} (i : i_st h 85 (sp_was A)) : i_st (mv_sI h 85 1 y) 85 (sp_was (mx_upA A 74 y)) := by
  refine ⟨?_, ?_, ?_, fun p hp => ?_⟩
  · rw [mx_Isk (by omega)]; exact i.1
  · rw [mx_Iss]; rfl
  · rw [mx_Isk (by omega)]; exact i.2.2.1
  · rw [mx_InE (by omega), i.2.2.2 p hp]
    show A (65 + (1 + p)) = mx_upA A 74 _ (65 + (1 + p))
    unfold mx_upA
    rw [if_neg (by omega)]
/-- the state now is laid into trial -/
theorem ct67t {E : mv_E} {D k n : Nat} {h0 h : mv_H} {Q : mv_Q} {V : vw} (i : InvC0 E h0 V) (f : mx_fz (mx_sX 85) h0 h) (iv : se_iv E h) (H : ∀ h', mx_fz (mx_sX 85) h0 h' → mx_fz (mx_sx 85) h h' → se_iv E h' → i_st h' 85 (sp_was (vA V)) → Q none h') : mv_VE E (D + 1) k n 67 0 [some (.ref 85), some (.ref 81)] [] h Q := by
  refine ct67 (Or.inr (Or.inr (Or.inl rfl))) (Or.inl rfl) (fun h1 f1 c1 c2 => ?_)
  have nw : i_st h 81 (sp_was (vA V)) := (InvC.now i).fz f (fun k => mx_sX85 (by omega)) (fun k => mx_sX85 (by omega))
  refine H h1 (f.tr (mx_sXof f1.z (fun a k q => ?_))) f1.z (iv.fz f1.z (fun a k q => ?_)) ⟨(c1 0 (by omega)).trans nw.1, (c1 1 (by omega)).trans nw.2.1, (c1 2 (by omega)).trans nw.2.2.1, fun p hp => (c2 p hp).trans (nw.2.2.2 p hp)⟩
  · unfold mx_sx
    rw [mv_bne q.1, mv_bne q.2.1]; rfl
  · unfold mx_sx
    rw [mv_bne (by unfold cr_reg at q; omega), mv_bne (by unfold cr_reg at q; omega)]; rfl
theorem mx_sX85u {h h1 : mv_H} {a k : Nat} {y : Int32} (f : mx_fz (mx_sX 85) h h1) (ha : a = 85 ∨ a = 86) : mx_fz (mx_sX 85) h (mv_sI h1 a k y) := f.tr (mx_fr.sI (mx_sXt (by omega))).z
theorem InvC.cr85 {E : mv_E} {h h2 : mv_H} {V : vw} {A : Nat → Int32} (i : InvC0 E h V) (m : InvM V) (s : sp_now (vA V) A) (f2 : mx_fz (mx_sX 85) h h2) : cr_ok E h2 (mv_R h2 50 3) A := InvC.cr (i.fz f2 (fun a k q => mx_sX85 q.1)) m s
theorem cc157 {E : mv_E} {D k n : Nat} {h : mv_H} {Q : mv_Q} {V : vw} {y : Int32} (t mm p : Nat) (i : InvC E h V) (m : InvM V) (ht : t < 4) (hm : mm ≤ 8) (so : vRs V t ≠ -1) (em : vRm V t = nI mm) (hq : ∀ j, j < mm → ∃ q, q < 512 ∧ q / 2 < 2 ^ sp_P (vA V) ∧ vNu V (40 * t + j) = lN q) (hp : p < sp_P (vA V)) (ey : y = nI p) (H : ∀ h', InvC E h' V → mx_fz (mx_sX 85) h h' → Q (some (.int (nI (sp_bb (vA V) (66 + p) (fun j => vNu V (40 * t + j)) mm 10)))) h') : mv_VE E (D + 5) k n 157 0 [some (.ref 50), some (.ref (136 + 2 * t)), some (.int y), none, none] [] h Q := by
  subst ey
  have p8 := m.p8
  obtain ⟨e2, eJ⟩ : mv_I h (136 + 2 * t) 2 = nI mm ∧ ∀ j, j < mm → mv_J h (137 + 2 * t) j = vNu V (40 * t + j) := by
    rcases tr_cases (i.1.2.2.1 t ht) with ⟨b1, b2⟩ | ⟨so', mm', b1, b2, b3, b4, b5, b6, b7⟩
    · exact absurd b1 so
    · rw [em, nI_eq (by omega) (by omega)] at b5
      subst b5
      exact ⟨b6, b7⟩
  apply sg157_0
  refine cc104 i.1 m ⟨_, rfl, ?_⟩
  rw [pnN m.ok hp, if_neg (by decide)]
  refine ct67t i.1 mx_fz.rf i.2 (fun h1 f1 _ iv1 i1 => ⟨rfl, ?_⟩)
  refine mx_loop (P := fun j => ∀ h2 z, mx_fz (mx_sX 85) h h2 → se_iv E h2 → i_st h2 85 (sp_was (mx_upA (vA V) (66 + p) z)) → mv_VE E (D + 5) k n 157 26 [some (.ref 50), some (.ref (136 + 2 * t)), some (.int (nI p)), some (.int (nI (sp_bb (vA V) (66 + p) (fun j => vNu V (40 * t + j)) mm j))), some (.int (nI j))] [] h2 Q) 10 ?_ ?_ h1 (vA V (66 + p)) f1 iv1 (by rw [mx_upAid]; exact i1)
  · intro h2 z f2 iv2 _
    apply sg157_26
    exact mx_ltF 10 10 (Nat.le_refl _) (H h2 (InvC.s85 i.1 f2 iv2) f2) (by omega)
  · intro j hj ih h2 z f2 iv2 i2
    have mj : InvM (vw_A V (mx_upA (vA V) (66 + p) (nI j))) := m.up (Or.inl ⟨p, by omega, rfl⟩) hj
    apply sg157_26
    rw [nI_clamp (n := p) (by omega), mx_1shl (by omega), mx_or, nI_1]
    refine mx_ltT j 10 hj (mv_gdI (mx_inT p (by omega) (by omega)) ?_) (by omega)
    have i3 : i_st (mv_sI h2 86 p (nI j)) 85 (sp_was (mx_upA (vA V) (66 + p) (nI j))) := by
      have := st85_up (y := nI j) (show p < 8 by omega) i2
      rw [mx_upAA] at this; exact this
    have f3 := mx_sX85u (k := p) (y := nI j) f2 (Or.inr rfl)
    refine ct158 (nu := fun j => vNu V (40 * t + j)) t mm ht (by omega) (InvC.cr85 i.1 m (sp_now.up (by omega) (by omega)) f3) mj.1.1 (iv2.sX (Or.inr rfl) (Or.inr rfl)) i3 ?_ (fun l hl => ?_) (fun l hl => ?_) (fun h4 f4 iv4 => ⟨_, rfl, ?_⟩)
    · rw [f3.I _ (fun k => mx_sX85 (by omega))]; exact e2
    · rw [(f3.2.2 _ l (mx_sX85 (by omega))).2.1]; exact eJ l hl
    · obtain ⟨q, q1, q2, q3⟩ := hq l hl
      exact ⟨q, q1, by rw [(sp_now.up (A := vA V) (k := 66 + p) (x := nI j) (by omega) (by omega)).P]; exact q2, q3⟩
    · have ih := ih h4 (nI j) (f3.tr (mx_sVX f4)) iv4 (i3.fz f4 (fun k => mx_sVf (by omega)) (fun k => mx_sVf (by omega)))
      have es : sp_bb (vA V) (66 + p) (fun j => vNu V (40 * t + j)) mm (j + 1) = sp_bb (vA V) (66 + p) (fun j => vNu V (40 * t + j)) mm j ||| cond (sp_ft (mx_upA (vA V) (66 + p) (nI j)) (fun j => vNu V (40 * t + j)) mm) (2 ^ j) 0 := rfl
      rw [es] at ih
      refine mx_ifB _ (fun w => ?_) (fun w => ?_)
      · rw [w, cond_false, Nat.or_zero] at ih; exact ih
      · rw [w] at ih; exact ih
theorem cc155 {E : mv_E} {D k n : Nat} {h : mv_H} {Q : mv_Q} {V : vw} {x y : Int32} (i : InvC E h V) (m : InvM V) (H : ∀ h', InvC E h' V → fCl h h' → Q (some (.int (v_bearings V x y))) h') : mv_VE E (D + 6) k n 155 0 [some (.ref 50), some (.int x), some (.int y), none] [] h Q := by
  have p8 := m.p8
  apply sg155_0
  refine cc104 i.1 m ⟨_, rfl, ?_⟩
  refine cc156 (pn (vA V) y) i.1 m rfl ⟨_, rfl, ?_⟩
  unfold v_bearings at H
  cases z : pn (vA V) y with
  | false =>
    rw [z, Bool.and_false] at H
    rw [cond_false, if_neg (by decide)]
    exact H h i fCl.rf
  | true =>
    rw [z, Bool.and_true] at H
    rw [cond_true]
    cases a : bn x 4 with
    | false =>
      rw [a] at H
      rw [v_nts2 a, if_neg (by decide)]
      exact H h i fCl.rf
    | true =>
      rw [a, cond_true] at H
      refine mx_if (fun q => ?_) (fun q => ?_)
      · rw [if_pos q] at H
        obtain ⟨t, ht, rfl, mm, hm, em, so, hq⟩ := v_nts0 m q
        obtain ⟨p, hp, rfl⟩ := pnT m.ok z
        rw [nI_clamp (n := t) (by omega), nI_clamp (n := p) (by omega), em, nI_clamp (n := mm) (by omega)] at H
        rw [nI_clamp (n := t) (by omega)]
        exact mv_gdI (by rw [mx_in t ht (by omega)]; rfl) (cc157 t mm p i m ht hm so em hq hp rfl (fun h' a f => ⟨_, rfl, H h' a (fCl85 f)⟩))
      · rw [if_neg q] at H; exact H h i fCl.rf
theorem cc159 {E : mv_E} {D k n : Nat} {h : mv_H} {Q : mv_Q} {V : vw} {x : Int32} (i : InvC E h V) (m : InvM V) (H : ∀ h', InvC E h' V → fCl h h' → Q (some (.int (v_storms V x))) h') : mv_VE E (D + 5) k n 159 0 [some (.ref 50), some (.int x), none, none, none] [] h Q := by
  apply sg159_0
  refine cc156 true i.1 m rfl ⟨_, rfl, ?_⟩
  rw [cond_true]
  unfold v_storms at H
  refine mx_if (fun q => ?_) (fun q => ?_)
  · rw [if_pos q] at H
    obtain ⟨t, ht, rfl, mm, hm, em, so, hq⟩ := v_nts0 m q
    rw [nI_clamp (n := t) (by omega), em, nI_clamp (n := mm) (by omega)] at H
    obtain ⟨e2, eJ⟩ : mv_I h (136 + 2 * t) 2 = nI mm ∧ ∀ j, j < mm → mv_J h (137 + 2 * t) j = vNu V (40 * t + j) := by
      rcases tr_cases (i.1.2.2.1 t ht) with ⟨b1, b2⟩ | ⟨so', mm', b1, b2, b3, b4, b5, b6, b7⟩
      · exact absurd b1 so
      · rw [em, nI_eq (by omega) (by omega)] at b5
        subst b5
        exact ⟨b6, b7⟩
    refine ct67t i.1 mx_fz.rf i.2 (fun h1 f1 _ iv1 i1 => ⟨rfl, ?_⟩)
    refine mx_loop (P := fun j => ∀ h2 z, mx_fz (mx_sX 85) h h2 → se_iv E h2 → i_st h2 85 (sp_was (mx_upA (vA V) 74 z)) → mv_VE E (D + 5) k n 159 29 [some (.ref 50), some (.int (nI t)), none, some (.int (nI (sp_bb (vA V) 74 (fun j => vNu V (40 * t + j)) mm j))), some (.int (nI j))] [] h2 Q) 10 ?_ ?_ h1 (vA V 74) f1 iv1 (by rw [mx_upAid]; exact i1)
    · intro h2 z f2 iv2 _
      apply sg159_29
      exact mx_ltF 10 10 (Nat.le_refl _) (H h2 (InvC.s85 i.1 f2 iv2) (fCl85 f2)) (by omega)
    · intro j hj ih h2 z f2 iv2 i2
      have mj : InvM (vw_A V (mx_upA (vA V) 74 (nI j))) := m.up (Or.inr rfl) hj
      apply sg159_29
      rw [nI_clamp (n := t) (by omega), mx_1shl (by omega), mx_or, nI_1]
      refine mx_ltT j 10 hj (mv_gdI (by rw [mx_in t ht (by omega)]; rfl) ?_) (by omega)
      have i3 : i_st (mv_sI h2 85 1 (nI j)) 85 (sp_was (mx_upA (vA V) 74 (nI j))) := by
        have := st85_stm (y := nI j) i2
        rw [mx_upAA] at this; exact this
      have f3 := mx_sX85u (k := 1) (y := nI j) f2 (Or.inl rfl)
      refine ct158 (nu := fun j => vNu V (40 * t + j)) t mm ht (by omega) (InvC.cr85 i.1 m (sp_now.up (by omega) (by omega)) f3) mj.1.1 (iv2.sX (Or.inr rfl) (Or.inl rfl)) i3 ?_ (fun l hl => ?_) (fun l hl => ?_) (fun h4 f4 iv4 => ⟨_, rfl, ?_⟩)
      · rw [f3.I _ (fun k => mx_sX85 (by omega))]; exact e2
      · rw [(f3.2.2 _ l (mx_sX85 (by omega))).2.1]; exact eJ l hl
      · obtain ⟨q, q1, q2, q3⟩ := hq l hl
        exact ⟨q, q1, by rw [(sp_now.up (A := vA V) (k := 74) (x := nI j) (by omega) (by omega)).P]; exact q2, q3⟩
      · have ih := ih h4 (nI j) (f3.tr (mx_sVX f4)) iv4 (i3.fz f4 (fun k => mx_sVf (by omega)) (fun k => mx_sVf (by omega)))
        have es : sp_bb (vA V) 74 (fun j => vNu V (40 * t + j)) mm (j + 1) = sp_bb (vA V) 74 (fun j => vNu V (40 * t + j)) mm j ||| cond (sp_ft (mx_upA (vA V) 74 (nI j)) (fun j => vNu V (40 * t + j)) mm) (2 ^ j) 0 := rfl
        rw [es] at ih
        refine mx_ifB _ (fun w => ?_) (fun w => ?_)
        · rw [w, cond_false, Nat.or_zero] at ih; exact ih
        · rw [w] at ih; exact ih
  · rw [if_neg q] at H; exact H h i fCl.rf
-- the model
theorem cw280 {E : mv_E} {D k n : Nat} {h0 h : mv_H} {Q : mv_Q} {V : vw} {x y : Int32} (t mm p : Nat) (f : fM V h0 h) (m : InvM V) (ht : t < 4) (hm : mm ≤ 8) (em : vRm V t = nI mm) (hq : ∀ j, j < mm → ∃ q, q < 512 ∧ q / 2 < 2 ^ sp_P (vA V) ∧ vNu V (40 * t + j) = lN q) (hp : p < sp_P (vA V)) (ex : x = nI t) (ey : y = nI p) (H : ∀ h', fM V h0 h' → Q (some (.int (nI (sp_bb (vA V) (66 + p) (fun j => vNu V (40 * t + j)) mm 10)))) h') : mv_VE E (D + 5) k n 280 0 [some (.ref 148), some (.int x), some (.int y), none, none, none] [] h Q := by
  subst ex; subst ey
  have p8 := m.p8
  have i66 : (true && mv_in (nI (66 + p)) 3264) = true := mx_inT (66 + p) (by omega) (by omega)
  apply sg280_0
  rw [show (66 : Int32) + nI p = nI (66 + p) from nI_add 66 p, nI_clamp (n := 66 + p) (by omega), f.A]
  refine mv_gdI i66 ?_
  refine mx_loop (P := fun j => ∀ h2 z, fM (vw_A V (mx_upA (vA V) (66 + p) z)) h0 h2 → mv_VE E (D + 5) k n 280 16 [some (.ref 148), some (.int (nI t)), some (.int (nI p)), some (.int (vA V (66 + p))), some (.int (nI (sp_bb (vA V) (66 + p) (fun j => vNu V (40 * t + j)) mm j))), some (.int (nI j))] [] h2 Q) 10 ?_ ?_ h (vA V (66 + p)) (by rw [mx_upAid]; exact f)
  · intro h2 z f2
    apply sg280_16
    rw [show (66 : Int32) + nI p = nI (66 + p) from nI_add 66 p, nI_clamp (n := 66 + p) (by omega)]
    refine mx_ltF 10 10 (Nat.le_refl _) (mv_gdI i66 (H _ ?_)) (by omega)
    have g := f2.at (k := 66 + p) (x := vA V (66 + p))
    have e : vw_A (vw_A V (mx_upA (vA V) (66 + p) z)) (mx_upA (mx_upA (vA V) (66 + p) z) (66 + p) (vA V (66 + p))) = V := by
      rw [mx_upAA, mx_upAid]; rfl
    have g : fM (vw_A (vw_A V (mx_upA (vA V) (66 + p) z)) (mx_upA (mx_upA (vA V) (66 + p) z) (66 + p) (vA V (66 + p)))) h0 (mv_sI h2 149 (66 + p) (vA V (66 + p))) := g
    rw [e] at g; exact g
  · intro j hj ih h2 z f2
    have mj : InvM (vw_A V (mx_upA (vA V) (66 + p) (nI j))) := m.up (Or.inl ⟨p, by omega, rfl⟩) hj
    have g : fM (vw_A (vw_A V (mx_upA (vA V) (66 + p) z)) (mx_upA (mx_upA (vA V) (66 + p) z) (66 + p) (nI j))) h0 (mv_sI h2 149 (66 + p) (nI j)) := f2.at (k := 66 + p) (x := nI j)
    rw [mx_upAA] at g
    have g : fM (vw_A V (mx_upA (vA V) (66 + p) (nI j))) h0 (mv_sI h2 149 (66 + p) (nI j)) := g
    apply sg280_16
    rw [show (66 : Int32) + nI p = nI (66 + p) from nI_add 66 p, nI_clamp (n := 66 + p) (by omega), mx_1shl (by omega), mx_or, mx_or0, Nat.or_zero, nI_1]
    refine mx_ltT j 10 hj (mv_gdI i66 ?_) (by omega)
    refine cw281 (V := vw_A V (mx_upA (vA V) (66 + p) (nI j))) t mm g mj ht (by omega) em (fun l hl => ?_) rfl (fun h3 f3 => ⟨_, rfl, ?_⟩)
    · obtain ⟨q, q1, q2, q3⟩ := hq l hl
      exact ⟨q, q1, by show q / 2 < 2 ^ sp_P (mx_upA (vA V) (66 + p) (nI j)); rw [(sp_now.up (A := vA V) (k := 66 + p) (x := nI j) (by omega) (by omega)).P]; exact q2, q3⟩
    · have ih := ih h3 (nI j) f3
      have es : sp_bb (vA V) (66 + p) (fun j => vNu V (40 * t + j)) mm (j + 1) = sp_bb (vA V) (66 + p) (fun j => vNu V (40 * t + j)) mm j ||| cond (sp_ft (mx_upA (vA V) (66 + p) (nI j)) (fun j => vNu V (40 * t + j)) mm) (2 ^ j) 0 := rfl
      rw [es] at ih
      refine mx_ifB _ (fun w => ?_) (fun w => ?_)
      · have w : sp_ft (mx_upA (vA V) (66 + p) (nI j)) (fun j => vNu V (40 * t + j)) mm = false := w
        rw [w, cond_false, Nat.or_zero] at ih; exact ih
      · have w : sp_ft (mx_upA (vA V) (66 + p) (nI j)) (fun j => vNu V (40 * t + j)) mm = true := w
        rw [w] at ih; exact ih
def v_nb (V : vw) (x y : Int32) : Int32 := cond (bn x 4 && pn (vA V) y) (v_nts V x) (-2)
theorem cw278 {E : mv_E} {D k n : Nat} {h0 h : mv_H} {Q : mv_Q} {V : vw} {x y : Int32} (f : fM V h0 h) (m : InvM V) (H : Q (some (.int (v_nb V x y))) h) : mv_VE E (D + 3) k n 278 0 [some (.ref 148), some (.int x), some (.int y)] [] h Q := by
  have e1 : pf210 h y.toInt64 = pn (vA V) y := by rw [pn210 (by rw [f.A]; exact m.ok), f.A]
  unfold v_nb at H
  apply sg278_0
  refine mx_cdb _ (bn_w 3 (by omega) rfl) (fun a => ?_) (fun a => ?_)
  · have a : bn x 4 = true := a
    rw [a, Bool.true_and] at H
    refine mx_cdb _ e1 (fun z => ?_) (fun z => ?_)
    · rw [z] at H
      exact cw279 f m ⟨_, rfl, H⟩
    · rw [z] at H; exact H
  · have a : bn x 4 = false := a
    rw [a] at H; exact H
theorem v_nb0 {V : vw} {x y : Int32} (m : InvM V) (h : v_nb V x y = 0) : v_nts V x = 0 ∧ bn x 4 = true ∧ pn (vA V) y = true := by
  unfold v_nb at h
  have no : ¬ ((-2 : Int32) = 0) := by decide
  cases a : bn x 4 <;> cases b : pn (vA V) y <;> rw [a, b] at h
  · exact absurd h no
  · exact absurd h no
  · exact absurd h no
  · exact ⟨h, rfl, rfl⟩
theorem cm277 {E : mv_E} {D k n : Nat} {h : mv_H} {Q : mv_Q} {V : vw} {x y : Int32} (e : vw_of h = V) (m : InvM V) (H : ∀ h', fM V h h' → Q (some (.int (v_bearings V x y))) h') : mv_VE E (D + 6) k n 277 0 [some (.ref 148), some (.int x), some (.int y), none] [] h Q := by
  have f0 := fM.of e
  have p8 := m.p8
  apply sg277_0
  refine cw278 f0 m ⟨_, rfl, ?_⟩
  unfold v_bearings at H
  refine mx_if (fun q => ?_) (fun q => ?_)
  · obtain ⟨q1, q2, q3⟩ := v_nb0 m q
    rw [q2, q3, Bool.and_true, cond_true, if_pos q1] at H
    obtain ⟨t, ht, rfl, mm, hm, em, so, hq⟩ := v_nts0 m q1
    obtain ⟨p, hp, rfl⟩ := pnT m.ok q3
    rw [nI_clamp (n := t) (by omega), nI_clamp (n := p) (by omega), em, nI_clamp (n := mm) (by omega)] at H
    exact cw280 t mm p f0 m ht hm em hq hp rfl rfl (fun h' f' => ⟨_, rfl, H h' f'⟩)
  · have H := H _ f0
    unfold v_nb at q ⊢
    cases a : (bn x 4 && pn (vA V) y) with
    | false => rw [a] at H; exact H
    | true =>
      rw [a, cond_true] at q H
      rw [if_neg q] at H
      exact H
theorem cm282 {E : mv_E} {D k n : Nat} {h : mv_H} {Q : mv_Q} {V : vw} {x : Int32} (e : vw_of h = V) (m : InvM V) (H : ∀ h', fM V h h' → Q (some (.int (v_storms V x))) h') : mv_VE E (D + 5) k n 282 0 [some (.ref 148), some (.int x), none, none, none, none] [] h Q := by
  have f0 := fM.of e
  apply sg282_0
  refine cw279 f0 m ⟨_, rfl, ?_⟩
  unfold v_storms at H
  refine mx_if (fun q => ?_) (fun q => ?_)
  · rw [if_pos q] at H
    obtain ⟨t, ht, rfl, mm, hm, em, so, hq⟩ := v_nts0 m q
    rw [nI_clamp (n := t) (by omega), em, nI_clamp (n := mm) (by omega)] at H
    rw [f0.A]
    refine mx_loop (P := fun j => ∀ h2 z, fM (vw_A V (mx_upA (vA V) 74 z)) h h2 → mv_VE E (D + 5) k n 282 31 [some (.ref 148), some (.int (nI t)), none, some (.int (vA V 74)), some (.int (nI (sp_bb (vA V) 74 (fun j => vNu V (40 * t + j)) mm j))), some (.int (nI j))] [] h2 Q) 10 ?_ ?_ _ (vA V 74) (by rw [mx_upAid]; exact f0)
    · intro h2 z f2
      apply sg282_31
      refine mx_ltF 10 10 (Nat.le_refl _) (H _ ?_) (by omega)
      have g : fM (vw_A (vw_A V (mx_upA (vA V) 74 z)) (mx_upA (mx_upA (vA V) 74 z) 74 (vA V 74))) h (mv_sI h2 149 74 (vA V 74)) := f2.at (k := 74) (x := vA V 74)
      have e : vw_A (vw_A V (mx_upA (vA V) 74 z)) (mx_upA (mx_upA (vA V) 74 z) 74 (vA V 74)) = V := by
        rw [mx_upAA, mx_upAid]; rfl
      rw [e] at g; exact g
    · intro j hj ih h2 z f2
      have mj : InvM (vw_A V (mx_upA (vA V) 74 (nI j))) := m.up (Or.inr rfl) hj
      have g : fM (vw_A (vw_A V (mx_upA (vA V) 74 z)) (mx_upA (mx_upA (vA V) 74 z) 74 (nI j))) h (mv_sI h2 149 74 (nI j)) := f2.at (k := 74) (x := nI j)
      rw [mx_upAA] at g
      have g : fM (vw_A V (mx_upA (vA V) 74 (nI j))) h (mv_sI h2 149 74 (nI j)) := g
      apply sg282_31
      rw [mx_1shl (by omega), mx_or, mx_or0, Nat.or_zero, nI_1]
      refine mx_ltT j 10 hj ?_ (by omega)
      refine cw281 (V := vw_A V (mx_upA (vA V) 74 (nI j))) t mm g mj ht (by omega) em (fun l hl => ?_) rfl (fun h3 f3 => ⟨_, rfl, ?_⟩)
      · obtain ⟨q, q1, q2, q3⟩ := hq l hl
        exact ⟨q, q1, by show q / 2 < 2 ^ sp_P (mx_upA (vA V) 74 (nI j)); rw [(sp_now.up (A := vA V) (k := 74) (x := nI j) (by omega) (by omega)).P]; exact q2, q3⟩
      · have ih := ih h3 (nI j) f3
        have es : sp_bb (vA V) 74 (fun j => vNu V (40 * t + j)) mm (j + 1) = sp_bb (vA V) 74 (fun j => vNu V (40 * t + j)) mm j ||| cond (sp_ft (mx_upA (vA V) 74 (nI j)) (fun j => vNu V (40 * t + j)) mm) (2 ^ j) 0 := rfl
        rw [es] at ih
        refine mx_ifB _ (fun w => ?_) (fun w => ?_)
        · have w : sp_ft (mx_upA (vA V) 74 (nI j)) (fun j => vNu V (40 * t + j)) mm = false := w
          rw [w, cond_false, Nat.or_zero] at ih; exact ih
        · have w : sp_ft (mx_upA (vA V) 74 (nI j)) (fun j => vNu V (40 * t + j)) mm = true := w
          rw [w] at ih; exact ih
  · rw [if_neg q] at H; exact H _ f0
