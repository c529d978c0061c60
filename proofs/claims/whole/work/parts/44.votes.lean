/-! Votes: swings, dummies, power, winning; quarrels. -/
def sp_q (A : Nat → Int32) (s : Nat) : Bool := !decide (sp_sum A 17 s (sp_P A) < A 2)
def sp_sw (A : Nat → Int32) (s p : Nat) : Bool := !s.testBit p && (!sp_q A s && sp_q A (s ||| 2 ^ p))
theorem mx_or_lt {s p P : Nat} (hs : s < 2 ^ P) (hp : p < P) : s ||| 2 ^ p < 2 ^ P := Nat.or_lt_two_pow hs (Nat.pow_lt_pow_right (by omega) hp)
theorem cw264 {E : mv_E} {D k n : Nat} {h0 h : mv_H} {Q : mv_Q} {V : vw} {x : Int32} (s : Nat) (f : fM V h0 h) (m : InvM V) (hs : s < 256) (e : x = nI s) (H : Q (some (.int (nI (sp_q (vA V) s).toNat))) h) : mv_VE E (D + 2) k n 264 0 [some (.ref 148), some (.int x)] [] h Q := by
  apply sg264_0
  refine cw221 17 s f m (by omega) hs rfl e ⟨_, rfl, ?_⟩
  rw [f.A]
  unfold sp_q at H
  refine mx_if (fun q => ?_) (fun q => ?_)
  · rw [decide_eq_true q] at H; exact H
  · rw [decide_eq_false q] at H; exact H
theorem cw263 {E : mv_E} {D k n : Nat} {h0 h : mv_H} {Q : mv_Q} {V : vw} {x1 x2 : Int32} (s p : Nat) (f : fM V h0 h) (m : InvM V) (hs : s < 2 ^ sp_P (vA V)) (hp : p < sp_P (vA V)) (e1 : x1 = nI s) (e2 : x2 = nI p) (H : Q (some (.int (nI (sp_sw (vA V) s p).toNat))) h) : mv_VE E (D + 3) k n 263 0 [some (.ref 148), some (.int x1), some (.int x2)] [] h Q := by
  subst e1; subst e2
  have p2 := m.p2
  have p8 := m.p8
  have ol := mx_or_lt hs hp
  apply sg263_0
  unfold sp_sw at H
  refine mx_cdb _ (mx_isIn (by omega) (by omega)) (fun b => ?_) (fun b => ?_)
  · rw [b] at H; exact H
  · rw [b, Bool.not_false, Bool.true_and] at H
    refine cw264 s f m (by omega) rfl ⟨_, rfl, ?_⟩
    cases z : sp_q (vA V) s with
    | true => rw [if_neg (by decide)]; rw [z] at H; exact H
    | false =>
      rw [if_pos (by rfl)]
      rw [z, Bool.not_false, Bool.true_and] at H
      refine cw264 (s ||| 2 ^ p) f m (by omega) (by rw [mx_1shl (by omega), mx_or]) ⟨_, rfl, ?_⟩
      cases w : sp_q (vA V) (s ||| 2 ^ p) with
      | false => rw [if_pos (by rfl)]; rw [w] at H; exact H
      | true => rw [if_neg (by decide)]; rw [w] at H; exact H
theorem ct33 {E : mv_E} {D k n : Nat} {h : mv_H} {Q : mv_Q} {r : Nat} {A : Nat → Int32} {x1 x2 : Int32} (p s : Nat) (cr : cr_ok E h r A) (ok : sp_ok A) (hs : s < 2 ^ sp_P A) (hp : p < sp_P A) (e1 : x1 = nI p) (e2 : x2 = nI s) (H : Q (some (.int (nI (sp_sw A s p).toNat))) h) : mv_VE E (D + 1) k n 33 0 [some (.ref r), some (.int x1), some (.int x2)] [] h Q := by
  subst e1; subst e2
  have p2 := mx_p2 ok.2.1
  have p8 := ok.2.1
  have ol := mx_or_lt hs hp
  have K := cr.1.2.1
  have q1 := cr.2.1.2.1
  apply sg33_0
  rw [K]
  unfold sp_sw at H
  refine mx_ifb _ (mx_bit0 (by omega) (by omega)) (fun b => ?_) (fun b => ?_)
  · rw [b, Bool.not_false, Bool.true_and] at H
    refine mv_gdI rfl (ct34 s cr ok (by omega) rfl ⟨_, rfl, ?_⟩)
    rw [K, q1]
    refine mv_gdI rfl ?_
    refine mx_if (fun q => ?_) (fun q => ?_)
    · have z : sp_q A s = false := by unfold sp_q; rw [decide_eq_true q]; rfl
      rw [z, Bool.not_false, Bool.true_and] at H
      refine mv_gdI rfl (ct34 (s ||| 2 ^ p) cr ok (by omega) (by rw [mx_1shl (by omega), mx_or]) ⟨_, rfl, ?_⟩)
      rw [K, q1]
      unfold sp_q at H
      refine mv_gdI rfl (mx_if (fun q => ?_) (fun q => ?_))
      · rw [decide_eq_true q] at H; exact H
      · rw [decide_eq_false q] at H; exact H
    · have z : sp_q A s = true := by unfold sp_q; rw [decide_eq_false q]; rfl
      rw [z] at H; exact H
  · rw [b] at H; exact H
def sp_swc (A : Nat → Int32) (p : Nat) : Nat → Nat := mx_fold (fun s a => a + (sp_sw A s p).toNat) 0
theorem ct35 {E : mv_E} {D k n : Nat} {h : mv_H} {Q : mv_Q} {r : Nat} {A : Nat → Int32} {x1 : Int32} (p : Nat) (cr : cr_ok E h r A) (ok : sp_ok A) (hp : p < sp_P A) (e1 : x1 = nI p) (H : Q (some (.int (nI (sp_swc A p (2 ^ sp_P A))))) h) : mv_VE E (D + 2) k n 35 0 [some (.ref r), some (.int x1), none, none] [] h Q := by
  subst e1
  have p2 := mx_p2 ok.2.1
  have p1 : 0 < 2 ^ sp_P A := Nat.pow_pos (by omega)
  have K := cr.1.2.1
  apply sg35_0
  refine mx_loop (P := fun s => mv_VE E (D + 2) k n 35 4 [some (.ref r), some (.int (nI p)), some (.int (nI (sp_swc A p s))), some (.int (nI s))] [] h Q) (2 ^ sp_P A) ?_ ?_
  · apply sg35_4
    rw [K]
    refine mv_gdI rfl (ct29 cr ok ⟨_, rfl, ?_⟩)
    exact mx_ltT _ _ (show 2 ^ sp_P A - 1 < 2 ^ sp_P A by omega) H (by omega)
  · intro s hs ih
    have es : sp_swc A p (s + 1) = sp_swc A p s + (sp_sw A s p).toNat := rfl
    rw [es] at ih
    apply sg35_4
    rw [K]
    refine mv_gdI rfl (ct29 cr ok ⟨_, rfl, ?_⟩)
    refine mx_ltF (2 ^ sp_P A - 1) s (by omega) ?_ (by omega)
    rw [K, nI_1, nI_1]
    refine mv_gdI rfl (ct33 p s cr ok hs hp rfl rfl ⟨_, rfl, ?_⟩)
    cases z : sp_sw A s p with
    | false => rw [if_pos (by rfl)]; rw [z] at ih; exact ih
    | true => rw [if_neg (by decide)]; rw [z] at ih; exact ih
-- swings
def v_swings (V : vw) (x : Int32) : Int32 := cond (pn (vA V) x) (nI (sp_swc (vA V) x.toNatClampNeg (2 ^ sp_P (vA V)))) (-2)
theorem cc145 {E : mv_E} {D k n : Nat} {h : mv_H} {Q : mv_Q} {V : vw} {x : Int32} (i : InvC E h V) (m : InvM V) (H : ∀ h', InvC E h' V → fCl h h' → Q (some (.int (v_swings V x))) h') : mv_VE E (D + 3) k n 145 0 [some (.ref 50), some (.int x)] [] h Q := by
  have hH := H h i fCl.rf
  have p8 := m.p8
  apply sg145_0
  unfold v_swings at hH
  refine cc104 i.1 m ⟨_, rfl, ?_⟩
  cases z : pn (vA V) x with
  | false => rw [if_pos (by rfl)]; rw [z] at hH; exact hH
  | true =>
    rw [if_neg (by decide)]
    obtain ⟨p, hp, rfl⟩ := pnT m.ok z
    rw [z, cond_true, nI_clamp (by omega)] at hH
    rw [i.1.1.1.1.1.2.1]
    exact mv_gdI rfl (ct35 p i.1.1.1.1 m.ok hp rfl ⟨_, rfl, hH⟩)
theorem cm268 {E : mv_E} {D k n : Nat} {h : mv_H} {Q : mv_Q} {V : vw} {x : Int32} (e : vw_of h = V) (m : InvM V) (H : ∀ h', fM V h h' → Q (some (.int (v_swings V x))) h') : mv_VE E (D + 4) k n 268 0 [some (.ref 148), some (.int x), none, none] [] h Q := by
  have p2 := m.p2
  have p8 := m.p8
  have p1 : 0 < 2 ^ sp_P (vA V) := Nat.pow_pos (by omega)
  have f0 := fM.of e
  have hH := H _ f0
  have e1 : pf210 (mv_sI h 148 0 0) x.toInt64 = pn (vA V) x := by rw [pn210 (by rw [f0.A]; exact m.ok), f0.A]
  apply sg268_0
  unfold v_swings at hH
  refine mx_cdb _ e1 (fun z => ?_) (fun z => ?_)
  · obtain ⟨p, hp, rfl⟩ := pnT m.ok z
    rw [z, cond_true, nI_clamp (by omega)] at hH
    refine mx_loop (P := fun s => mv_VE E (D + 4) k n 268 21 [some (.ref 148), some (.int (nI p)), some (.int (nI (sp_swc (vA V) p s))), some (.int (nI s))] [] (mv_sI h 148 0 0) Q) (2 ^ sp_P (vA V)) ?_ ?_
    · apply sg268_21
      rw [cw219 f0 m]
      exact mx_ltT _ _ (show 2 ^ sp_P (vA V) - 1 < 2 ^ sp_P (vA V) by omega) hH (by omega)
    · intro s hs ih
      have es : sp_swc (vA V) p (s + 1) = sp_swc (vA V) p s + (sp_sw (vA V) s p).toNat := rfl
      rw [es] at ih
      apply sg268_21
      rw [cw219 f0 m, nI_1, nI_1]
      refine mx_ltF (2 ^ sp_P (vA V) - 1) s (by omega) ?_ (by omega)
      refine cw263 s p f0 m hs hp rfl rfl ⟨_, rfl, ?_⟩
      cases z : sp_sw (vA V) s p with
      | false =>
        rw [if_pos (by rfl), show nI (sp_swc (vA V) p s) + (0 : Int32) = nI (sp_swc (vA V) p s + 0) from nI_add _ 0]
        rw [z] at ih; exact ih
      | true => rw [if_neg (by decide)]; rw [z] at ih; exact ih
  · rw [z] at hH; exact hH
-- orders, decided
def sp_fac : Nat → Nat
  | 0 => 1
  | n + 1 => (n + 1) * sp_fac n
def sp_dec (A : Nat → Int32) (p : Nat) : Nat → Nat := mx_fold (fun s a => a + cond (sp_sw A s p) (sp_fac (sp_bits s) * sp_fac (sp_P A - 1 - sp_bits s)) 0) 0
theorem sp_fac_le : ∀ n, n ≤ 8 → sp_fac n ≤ 40320 := by decide +kernel
theorem sp_fac_pos : ∀ n, 0 < sp_fac n
  | 0 => by decide
  | n + 1 => Nat.mul_pos (by omega) (sp_fac_pos n)
theorem sp_fac2 : ∀ P, P ≤ 8 → ∀ b, b < P → sp_fac b * sp_fac (P - 1 - b) ≤ 5040 := by decide +kernel
theorem ct265 {E : mv_E} {h : mv_H} : ∀ (j : Nat) {D k n : Nat} {Q : mv_Q} {x : Int32}, j ≤ 8 → x = nI j → Q (some (.int (nI (sp_fac j)))) h → mv_VE E (D + j + 1) k n 265 0 [some (.int x)] [] h Q
  | 0, D, k, n, Q, x, _, e, H => by
    subst e
    apply sg265_0
    exact mx_ltT 0 2 (by omega) H (by omega)
  | 1, D, k, n, Q, x, _, e, H => by
    subst e
    apply sg265_0
    exact mx_ltT 1 2 (by omega) H (by omega)
  | j + 2, D, k, n, Q, x, hj, e, H => by
    subst e
    apply sg265_0
    refine mx_ltF (j + 2) 2 (by omega) ?_ (by omega)
    refine ct265 (j + 1) (D := D) (by omega) (nI_pred (j + 1)) ⟨_, rfl, ?_⟩
    rw [pk_mul]
    exact H
theorem sp_sw_bits {A : Nat → Int32} {s p : Nat} (ok : sp_ok A) (hs : s < 2 ^ sp_P A) (hp : p < sp_P A) (h : sp_sw A s p = true) : sp_bits s < sp_P A := by
  have p2 := mx_p2 ok.2.1
  unfold sp_sw at h
  rw [Bool.and_eq_true, Bool.not_eq_true'] at h
  have := sp_bits_lt (sp_sub_all hs) (fun c => by
    have e := h.1
    rw [c, Nat.testBit_two_pow_sub_one, decide_eq_true hp] at e
    cases e) (by omega) (by omega)
  rw [sp_bits_P _ ok.2.1] at this
  exact this
theorem sp_dec_le {A : Nat → Int32} {p : Nat} (ok : sp_ok A) (hp : p < sp_P A) : ∀ s, s ≤ 2 ^ sp_P A → sp_dec A p s ≤ 5040 * s
  | 0, _ => Nat.le_refl _
  | s + 1, hs => by
    have ih := sp_dec_le ok hp s (by omega)
    have es : sp_dec A p (s + 1) = sp_dec A p s + cond (sp_sw A s p) (sp_fac (sp_bits s) * sp_fac (sp_P A - 1 - sp_bits s)) 0 := rfl
    rw [es]
    cases z : sp_sw A s p with
    | false => rw [cond_false]; omega
    | true =>
      have := sp_fac2 (sp_P A) ok.2.1 (sp_bits s) (sp_sw_bits ok (by omega) hp z)
      rw [cond_true]; omega
theorem sp_dec_0 {A : Nat → Int32} {p : Nat} : ∀ s, sp_dec A p s = 0 ↔ sp_swc A p s = 0
  | 0 => ⟨fun _ => rfl, fun _ => rfl⟩
  | s + 1 => by
    have ih := sp_dec_0 (A := A) (p := p) s
    have es : sp_dec A p (s + 1) = sp_dec A p s + cond (sp_sw A s p) (sp_fac (sp_bits s) * sp_fac (sp_P A - 1 - sp_bits s)) 0 := rfl
    have et : sp_swc A p (s + 1) = sp_swc A p s + (sp_sw A s p).toNat := rfl
    rw [es, et]
    cases z : sp_sw A s p with
    | false => exact ih
    | true =>
      have := Nat.mul_pos (sp_fac_pos (sp_bits s)) (sp_fac_pos (sp_P A - 1 - sp_bits s))
      rw [cond_true]
      constructor
      · intro c; omega
      · intro c
        have c : sp_swc A p s + 1 = 0 := c
        omega
theorem cw262 {E : mv_E} {D k n : Nat} {h0 h : mv_H} {Q : mv_Q} {V : vw} {x : Int32} (p : Nat) (f : fM V h0 h) (m : InvM V) (hp : p < sp_P (vA V)) (e : x = nI p) (H : Q (some (.int (nI (sp_dec (vA V) p (2 ^ sp_P (vA V)))))) h) : mv_VE E (D + 14) k n 262 0 [some (.ref 148), some (.int x), none, none] [] h Q := by
  subst e
  have p2 := m.p2
  have p8 := m.p8
  have p1 : 0 < 2 ^ sp_P (vA V) := Nat.pow_pos (by omega)
  apply sg262_0
  refine mx_loop (P := fun s => mv_VE E (D + 14) k n 262 4 [some (.ref 148), some (.int (nI p)), some (.int (nI (sp_dec (vA V) p s))), some (.int (nI s))] [] h Q) (2 ^ sp_P (vA V)) ?_ ?_
  · apply sg262_4
    rw [cw219 f m]
    exact mx_ltT _ _ (show 2 ^ sp_P (vA V) - 1 < 2 ^ sp_P (vA V) by omega) H (by omega)
  · intro s hs ih
    have es : sp_dec (vA V) p (s + 1) = sp_dec (vA V) p s + cond (sp_sw (vA V) s p) (sp_fac (sp_bits s) * sp_fac (sp_P (vA V) - 1 - sp_bits s)) 0 := rfl
    rw [es] at ih
    apply sg262_4
    rw [cw219 f m, nI_1]
    refine mx_ltF (2 ^ sp_P (vA V) - 1) s (by omega) ?_ (by omega)
    refine cw263 s p f m hs hp rfl rfl ⟨_, rfl, ?_⟩
    cases z : sp_sw (vA V) s p with
    | false => rw [if_pos (by rfl)]; rw [z] at ih; exact ih
    | true =>
      have sb := sp_sw_bits m.ok hs hp z
      rw [if_neg (by decide)]
      rw [z, cond_true] at ih
      refine ct214 s (by omega) rfl ⟨_, rfl, ?_⟩
      refine mv_V.up (ct265 (sp_bits s) (D := 0) (by omega) rfl ⟨_, rfl, ?_⟩) (by omega)
      refine ct214 s (by omega) rfl ⟨_, rfl, ?_⟩
      rw [f.A, m.ok.1]
      refine mv_V.up (ct265 (sp_P (vA V) - 1 - sp_bits s) (D := 0) (by omega) ?_ ⟨_, rfl, ?_⟩) (by omega)
      · rw [show nI (sp_P (vA V)) - (1 : Int32) = nI (sp_P (vA V) - 1) from pk_sub (b := 1) (by omega), pk_sub (by omega)]
      · rw [pk_mul, nI_add]
        exact ih
-- dummies
def sp_dm (A : Nat → Int32) : Nat → Nat := mx_fold (fun p a => a ||| cond (decide (sp_swc A p (2 ^ sp_P A) = 0)) (2 ^ p) 0) 0
theorem cc144 {E : mv_E} {D k n : Nat} {h : mv_H} {Q : mv_Q} {V : vw} (i : InvC E h V) (m : InvM V) (H : ∀ h', InvC E h' V → fCl h h' → Q (some (.int (nI (sp_dm (vA V) (sp_P (vA V)))))) h') : mv_VE E (D + 3) k n 144 0 [some (.ref 50), none, none] [] h Q := by
  have hH := H h i fCl.rf
  have p2 := m.p2
  have p8 := m.p8
  have K := i.1.1.1.1.1.2.1
  have v0 := i.1.1.1.1.2.1.1.trans m.ok.1
  apply sg144_0
  refine mx_loop (P := fun p => mv_VE E (D + 3) k n 144 4 [some (.ref 50), some (.int (nI (sp_dm (vA V) p))), some (.int (nI p))] [] h Q) (sp_P (vA V)) ?_ ?_
  · apply sg144_4
    rw [K, v0]
    exact mv_gdI rfl (mx_ltF (sp_P (vA V)) (sp_P (vA V)) (Nat.le_refl _) hH (by omega))
  · intro p hp ih
    have es : sp_dm (vA V) (p + 1) = sp_dm (vA V) p ||| cond (decide (sp_swc (vA V) p (2 ^ sp_P (vA V)) = 0)) (2 ^ p) 0 := rfl
    rw [es] at ih
    have hl : ∀ s, sp_swc (vA V) p s ≤ s := by
      intro s
      induction s with
      | zero => exact Nat.le_refl _
      | succ s ih => have := mx_tn (sp_sw (vA V) s p); show sp_swc (vA V) p s + (sp_sw (vA V) s p).toNat ≤ s + 1; omega
    have := hl (2 ^ sp_P (vA V))
    apply sg144_4
    rw [K, v0, nI_1, mx_1shl (by omega), mx_or]
    refine mv_gdI rfl (mx_ltT p (sp_P (vA V)) hp (mv_gdI rfl ?_) (by omega))
    refine ct35 p i.1.1.1.1 m.ok hp rfl ⟨_, rfl, ?_⟩
    refine mx_eq (sp_swc (vA V) p (2 ^ sp_P (vA V))) 0 (fun z => ?_) (fun z => ?_) (by omega) (by omega)
    · rw [decide_eq_true z] at ih; exact ih
    · rw [decide_eq_false z, cond_false, Nat.or_zero] at ih; exact ih
theorem cm267 {E : mv_E} {D k n : Nat} {h : mv_H} {Q : mv_Q} {V : vw} (e : vw_of h = V) (m : InvM V) (H : ∀ h', fM V h h' → Q (some (.int (nI (sp_dm (vA V) (sp_P (vA V)))))) h') : mv_VE E (D + 15) k n 267 0 [some (.ref 148), none, none] [] h Q := by
  have p2 := m.p2
  have p8 := m.p8
  have f0 := fM.of e
  have hH := H _ f0
  apply sg267_0
  refine mx_loop (P := fun p => mv_VE E (D + 15) k n 267 9 [some (.ref 148), some (.int (nI (sp_dm (vA V) p))), some (.int (nI p))] [] (mv_sI h 148 0 0) Q) (sp_P (vA V)) ?_ ?_
  · apply sg267_9
    rw [f0.A, m.ok.1]
    exact mx_ltF (sp_P (vA V)) (sp_P (vA V)) (Nat.le_refl _) hH (by omega)
  · intro p hp ih
    have es : sp_dm (vA V) (p + 1) = sp_dm (vA V) p ||| cond (decide (sp_swc (vA V) p (2 ^ sp_P (vA V)) = 0)) (2 ^ p) 0 := rfl
    rw [es] at ih
    have dl := sp_dec_le m.ok hp (2 ^ sp_P (vA V)) (Nat.le_refl _)
    have d0 := sp_dec_0 (A := vA V) (p := p) (2 ^ sp_P (vA V))
    apply sg267_9
    rw [f0.A, m.ok.1, nI_1, mx_1shl (by omega), mx_or, mx_or0]
    refine mx_ltT p (sp_P (vA V)) hp ?_ (by omega)
    refine cw262 p f0 m hp rfl ⟨_, rfl, ?_⟩
    refine mx_eq (sp_dec (vA V) p (2 ^ sp_P (vA V))) 0 (fun z => ?_) (fun z => ?_) (by omega) (by omega)
    · rw [decide_eq_true (d0.mp z)] at ih; exact ih
    · rw [decide_eq_false (fun c => z (d0.mpr c))] at ih; exact ih
-- quarrels
def sp_qr (A : Nat → Int32) : Nat → Nat := mx_fold (fun p a => a + sp_bits (sp_B A p &&& sp_Qr A p)) 0
theorem sp_qr_le (A : Nat → Int32) : ∀ p, sp_qr A p ≤ 8 * p
  | 0 => Nat.le_refl _
  | p + 1 => by
    have := sp_qr_le A p
    have := sp_bits_le (sp_B A p &&& sp_Qr A p)
    show sp_qr A p + sp_bits (sp_B A p &&& sp_Qr A p) ≤ _
    omega
theorem cc154 {E : mv_E} {D k n : Nat} {h : mv_H} {Q : mv_Q} {V : vw} (i : InvC E h V) (m : InvM V) (H : ∀ h', InvC E h' V → fCl h h' → Q (some (.int (nI (sp_qr (vA V) (sp_P (vA V)) / 2)))) h') : mv_VE E (D + 1) k n 154 0 [some (.ref 50), none, none] [] h Q := by
  have hH := H h i fCl.rf
  have p2 := m.p2
  have p8 := m.p8
  obtain ⟨⟨-, K, -, -, -, -, ⟨s1, s2⟩, ⟨s3, s4⟩, -⟩, ⟨v0, -, -, -, -, v1, v2, -⟩, -⟩ := i.1.1.1.1
  apply sg154_0
  refine mx_loop (P := fun p => mv_VE E (D + 1) k n 154 4 [some (.ref 50), some (.int (nI (sp_qr (vA V) p))), some (.int (nI p))] [] h Q) (sp_P (vA V)) ?_ ?_
  · apply sg154_4
    have := sp_qr_le (vA V) (sp_P (vA V))
    rw [K, v0, m.ok.1, show nI (sp_qr (vA V) (sp_P (vA V))) / (2 : Int32) = nI (sp_qr (vA V) (sp_P (vA V)) / 2) from pk_div (d := 2) (by omega) (by omega) (by omega)]
    exact mv_gdI rfl (mx_ltF (sp_P (vA V)) (sp_P (vA V)) (Nat.le_refl _) hH (by omega))
  · intro p hp ih
    obtain ⟨b1, b2⟩ := m.ok.2.2.1 p hp
    obtain ⟨-, -, b3, b4⟩ := m.1.1.2.2.1 p hp
    have bl : sp_B (vA V) p &&& sp_Qr (vA V) p < 256 := Nat.lt_of_le_of_lt Nat.and_le_left (by omega)
    apply sg154_4
    rw [K, v0, m.ok.1, s1, s2, s3, s4, nI_clamp (n := p) (by omega), v1 p (by omega), v2 p (by omega), b1, b3, mx_and, mx_305 _ bl, nI_add, nI_1]
    have i8 : (true && mv_in (nI p) 8) = true := mx_inT p (by omega) (by omega)
    exact mv_gdI rfl (mx_ltT p (sp_P (vA V)) hp (mv_gdI rfl (mv_gdI i8 (mv_gdI rfl (mv_gdI i8 ih)))) (by omega))
theorem cm276 {E : mv_E} {D k n : Nat} {h : mv_H} {Q : mv_Q} {V : vw} (e : vw_of h = V) (m : InvM V) (H : ∀ h', fM V h h' → Q (some (.int (nI (sp_qr (vA V) (sp_P (vA V)) / 2)))) h') : mv_VE E (D + 1) k n 276 0 [some (.ref 148), none, none] [] h Q := by
  have p2 := m.p2
  have p8 := m.p8
  have f0 := fM.of e
  have hH := H _ f0
  apply sg276_0
  refine mx_loop (P := fun p => mv_VE E (D + 1) k n 276 9 [some (.ref 148), some (.int (nI (sp_qr (vA V) p))), some (.int (nI p))] [] (mv_sI h 148 0 0) Q) (sp_P (vA V)) ?_ ?_
  · apply sg276_9
    have := sp_qr_le (vA V) (sp_P (vA V))
    rw [f0.A, m.ok.1, show nI (sp_qr (vA V) (sp_P (vA V))) / (2 : Int32) = nI (sp_qr (vA V) (sp_P (vA V)) / 2) from pk_div (d := 2) (by omega) (by omega) (by omega)]
    exact mx_ltF (sp_P (vA V)) (sp_P (vA V)) (Nat.le_refl _) hH (by omega)
  · intro p hp ih
    obtain ⟨b1, b2⟩ := m.ok.2.2.1 p hp
    obtain ⟨-, -, b3, b4⟩ := m.1.1.2.2.1 p hp
    have bl : sp_B (vA V) p &&& sp_Qr (vA V) p < 256 := Nat.lt_of_le_of_lt Nat.and_le_left (by omega)
    apply sg276_9
    rw [f0.A, m.ok.1, show (33 : Int32) + nI p = nI (33 + p) from nI_add 33 p, show (25 : Int32) + nI p = nI (25 + p) from nI_add 25 p, nI_clamp (n := 33 + p) (by omega), nI_clamp (n := 25 + p) (by omega), b1, b3, mx_and, nI_1]
    refine mx_ltT p (sp_P (vA V)) hp (mv_gdI (mx_inT (33 + p) (by omega) (by omega)) (mv_gdI (mx_inT (25 + p) (by omega) (by omega)) ?_)) (by omega)
    refine ct214 (sp_B (vA V) p &&& sp_Qr (vA V) p) (by omega) (by rw [Nat.and_comm]) ⟨_, rfl, ?_⟩
    rw [nI_add]
    exact ih
