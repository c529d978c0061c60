/-! Fractions; power, winning. -/
theorem mx_mod2 {b r : Nat} (h0 : 0 < r) (h1 : r < b) : 2 * (b % r) < b := by
  have h2 := Nat.mod_lt b h0
  have h3 := Nat.div_add_mod b r
  have h4 : 1 ≤ b / r := Nat.div_pos (by omega) h0
  have h5 : r * 1 ≤ r * (b / r) := Nat.mul_le_mul_left r h4
  omega
theorem ct266 {E : mv_E} {h : mv_H} : ∀ (j : Nat) {D k n : Nat} {Q : mv_Q} {x0 x1 : Int32} (a b : Nat), a < 2 ^ 31 → b < 2 ^ j → b < 2 ^ 31 → x0 = nI a → x1 = nI b → Q (some (.int (nI (Nat.gcd a b)))) h → mv_VE E (D + 2 * j + 1) k n 266 0 [some (.int x0), some (.int x1)] [] h Q
  | 0, D, k, n, Q, x0, x1, a, b, ha, hb, hb2, e0, e1, H => by
    have : b = 0 := by omega
    subst this
    subst e0; subst e1
    rw [Nat.gcd_zero_right] at H
    apply sg266_0
    exact mx_eqT 0 0 rfl H
  | j + 1, D, k, n, Q, x0, x1, a, b, ha, hb, hb2, e0, e1, H => by
    subst e0; subst e1
    apply sg266_0
    by_cases z : b = 0
    · subst z
      rw [Nat.gcd_zero_right] at H
      exact mx_eqT 0 0 rfl H
    · refine mx_eqF b 0 z ?_ hb2 (by omega)
      have ne : (!decide (nI b = 0)) = true := by rw [decide_eq_false (nI_ne0 (by omega) hb2)]; rfl
      refine mv_gdI ne ?_
      rw [pk_rem ha (by omega) hb2]
      have rl := Nat.mod_lt a (show 0 < b by omega)
      have e : Nat.gcd a b = Nat.gcd b (a % b) := by rw [Nat.gcd_comm, Nat.gcd_rec, Nat.gcd_comm]
      rw [e] at H
      rw [show D + 2 * (j + 1) = (D + 2 * j + 1) + 1 by omega]
      apply sg266_0
      by_cases z2 : a % b = 0
      · rw [z2] at H ⊢
        rw [Nat.gcd_zero_right] at H
        exact mx_eqT 0 0 rfl ⟨_, rfl, H⟩
      · refine mx_eqF (a % b) 0 z2 ?_ (by omega) (by omega)
        have ne : (!decide (nI (a % b) = 0)) = true := by rw [decide_eq_false (nI_ne0 (by omega) (by omega))]; rfl
        refine mv_gdI ne ?_
        rw [pk_rem hb2 (by omega) (by omega)]
        have e : Nat.gcd b (a % b) = Nat.gcd (a % b) (b % (a % b)) := by rw [Nat.gcd_comm, Nat.gcd_rec, Nat.gcd_comm]
        rw [e] at H
        have m2 := mx_mod2 (b := b) (r := a % b) (by omega) rl
        have rl2 := Nat.mod_lt b (show 0 < a % b by omega)
        rw [Nat.pow_succ] at hb
        exact ct266 j (D := D) (a % b) (b % (a % b)) (by omega) (by omega) (by omega) rfl rfl ⟨_, rfl, ⟨_, rfl, H⟩⟩
theorem mx_lne {b : Nat} (h0 : b ≠ 0) (hb : b < 2 ^ 63) : ¬ lN b = 0 := by
  intro c
  have e : lN b = lN 0 := c
  rw [pk_lEQ hb (by omega)] at e
  exact h0 e
theorem ct143 {E : mv_E} {D k n : Nat} {h : mv_H} {Q : mv_Q} {x0 x1 : Int64} (a b : Nat) (ha : a < 2 ^ 63) (hb : b < 2 ^ 49) (e0 : x0 = lN a) (e1 : x1 = lN b) (H : Q (some (.long (lN (Nat.gcd a b)))) h) : mv_VE E D k n 143 0 [some (.long x0), none, some (.long x1), none, none, none, none, none, none, none, none] [] h Q := by
  subst e0; subst e1
  apply sg143_0
  have key : ∀ j i a b, a < 2 ^ 63 → b < 2 ^ j → j ≤ 49 → i + 2 * j ≤ 99 → Q (some (.long (lN (Nat.gcd a b)))) h → mv_VE E D k n 143 9 [none, none, none, none, some (.long (lN a)), none, some (.long (lN b)), none, some (.int (nI i)), none, none] [] h Q := by
    intro j
    induction j with
    | zero =>
      intro i a b ha hb hj hi H
      have : b = 0 := by omega
      subst this
      rw [Nat.gcd_zero_right] at H
      apply sg143_9
      refine mx_ltT i 100 (by omega) ?_ (by omega)
      rw [if_pos (by rw [lg_cmp_eq]; rfl)]
      exact H
    | succ j ih =>
      intro i a b ha hb hj hi H
      have pw : 2 ^ (j + 1) ≤ 2 ^ 49 := Nat.pow_le_pow_right (by omega) hj
      apply sg143_9
      refine mx_ltT i 100 (by omega) ?_ (by omega)
      by_cases z : b = 0
      · subst z
        rw [Nat.gcd_zero_right] at H
        rw [if_pos (by rw [lg_cmp_eq]; rfl)]
        exact H
      · rw [if_neg (by rw [lg_cmp_eq]; exact mx_lne z (by omega))]
        refine mv_gdI (by rw [decide_eq_false (mx_lne z (by omega))]; rfl) ?_
        rw [pk_lRem ha (by omega) (by omega), nI_1]
        have rl := Nat.mod_lt a (show 0 < b by omega)
        have e : Nat.gcd a b = Nat.gcd b (a % b) := by rw [Nat.gcd_comm, Nat.gcd_rec, Nat.gcd_comm]
        rw [e] at H
        apply sg143_9
        refine mx_ltT (i + 1) 100 (by omega) ?_ (by omega)
        by_cases z2 : a % b = 0
        · rw [z2] at H ⊢
          rw [Nat.gcd_zero_right] at H
          rw [if_pos (by rw [lg_cmp_eq]; rfl)]
          exact H
        · rw [if_neg (by rw [lg_cmp_eq]; exact mx_lne z2 (by omega))]
          refine mv_gdI (by rw [decide_eq_false (mx_lne z2 (by omega))]; rfl) ?_
          rw [pk_lRem (by omega) (by omega) (by omega), nI_1]
          have e : Nat.gcd b (a % b) = Nat.gcd (a % b) (b % (a % b)) := by rw [Nat.gcd_comm, Nat.gcd_rec, Nat.gcd_comm]
          rw [e] at H
          have m2 := mx_mod2 (b := b) (r := a % b) (by omega) rl
          rw [Nat.pow_succ] at hb
          exact ih (i + 2) _ _ (by omega) (by omega) (by omega) (by omega) H
  exact key 49 0 a b ha hb (by omega) (by omega) H
theorem ct142 {E : mv_E} {D k n : Nat} {h : mv_H} {Q : mv_Q} {x0 x1 : Int64} {y : Int32} (a b : Nat) (ha : a < 2 ^ 63) (hb : b < 2 ^ 49) (b0 : 0 < b) (e0 : x0 = lN a) (e1 : x1 = lN b) (H : Q (some (.int (nI ((if y = 0 then a else b) / Nat.gcd a b)))) h) : mv_VE E (D + 1) k n 142 0 [some (.long x0), none, some (.long x1), none, some (.int y), none, none] [] h Q := by
  have gp : 0 < Nat.gcd a b := Nat.gcd_pos_of_pos_right a b0
  have gl : Nat.gcd a b ≤ b := Nat.gcd_le_right a b0
  apply sg142_0
  refine ct143 a b ha hb e0 e1 ⟨_, rfl, ?_⟩
  have ne := mx_lne (b := Nat.gcd a b) (by omega) (by omega)
  rw [if_neg (by rw [lg_cmp_eq]; exact ne)]
  subst e0; subst e1
  refine mx_if (fun q => ?_) (fun q => ?_)
  · refine mv_gdI (by rw [decide_eq_false ne]; rfl) ?_
    rw [if_pos q] at H
    rw [pk_lDiv ha gp (by omega), lN_i]
    exact H
  · refine mv_gdI (by rw [decide_eq_false ne]; rfl) ?_
    rw [if_neg q] at H
    rw [pk_lDiv (by omega) gp (by omega), lN_i]
    exact H
theorem ct141 {E : mv_E} {D k n : Nat} {h : mv_H} {Q : mv_Q} {x : Int32} (j : Nat) (hO : ∀ j, j < 9 → mv_I h 47 j = nI (sp_fac j)) (hj : j < 9) (e : x = nI j) (H : Q (some (.int (nI (sp_fac j)))) h) : mv_VE E D k n 141 0 [some (.int x)] [] h Q := by
  subst e
  apply sg141_0
  refine mx_ltF j 0 (by omega) (mx_ltT j 9 hj (mv_gdI (mx_inT j hj (by omega)) ?_) (by omega)) (by omega)
  rw [nI_clamp (by omega), hO j hj]
  exact H
-- power
def v_power (V : vw) (x y : Int32) : Int32 := if pn (vA V) x = true ∧ (y = 0 ∨ y = 1) then nI ((if y = 0 then sp_dec (vA V) x.toNatClampNeg (2 ^ sp_P (vA V)) else sp_fac (sp_P (vA V))) / Nat.gcd (sp_dec (vA V) x.toNatClampNeg (2 ^ sp_P (vA V))) (sp_fac (sp_P (vA V)))) else -2
theorem cc140 {E : mv_E} {D k n : Nat} {h : mv_H} {Q : mv_Q} {V : vw} {x y : Int32} (hO : ∀ j, j < 9 → mv_I h 47 j = nI (sp_fac j)) (i : InvC E h V) (m : InvM V) (H : ∀ h', InvC E h' V → fCl h h' → Q (some (.int (v_power V x y))) h') : mv_VE E (D + 2) k n 140 0 [some (.ref 50), some (.int x), some (.int y), none, none, none, none] [] h Q := by
  have hH := H h i fCl.rf
  have p2 := m.p2
  have p8 := m.p8
  have p1 : 0 < 2 ^ sp_P (vA V) := Nat.pow_pos (by omega)
  have K := i.1.1.1.1.1.2.1
  have v0 := i.1.1.1.1.2.1.1.trans m.ok.1
  apply sg140_0
  unfold v_power at hH
  refine cc104 i.1 m ⟨_, rfl, ?_⟩
  cases z1 : pn (vA V) x with
  | false => rw [if_pos (by rfl)]; rw [if_neg (fun c => by rw [z1] at c; exact absurd c.1 (by decide))] at hH; exact hH
  | true =>
    rw [if_neg (by decide)]
    refine mx_cdb _ (mx_128 y) (fun z2 => ?_) (fun z2 => ?_)
    · rw [if_pos ⟨z1, of_decide_eq_true z2⟩] at hH
      obtain ⟨p, hp, rfl⟩ := pnT m.ok z1
      rw [nI_clamp (by omega)] at hH
      have dl := sp_dec_le m.ok hp
      refine mx_loop (P := fun s => mv_VE E (D + 2) k n 140 23 [some (.ref 50), some (.int (nI p)), some (.int y), some (.long (lN (sp_dec (vA V) p s))), none, some (.int (nI s)), none] [] h Q) (2 ^ sp_P (vA V)) ?_ ?_
      · apply sg140_23
        rw [K]
        refine mv_gdI rfl (ct29 i.1.1.1.1 m.ok ⟨_, rfl, ?_⟩)
        refine mx_ltT _ _ (show 2 ^ sp_P (vA V) - 1 < 2 ^ sp_P (vA V) by omega) ?_ (by omega)
        rw [K, v0]
        refine mv_gdI rfl (ct141 _ hO (by omega) rfl ⟨_, rfl, ?_⟩)
        have fl := sp_fac_le (sp_P (vA V)) p8
        have := dl (2 ^ sp_P (vA V)) (Nat.le_refl _)
        exact ct142 (sp_dec (vA V) p (2 ^ sp_P (vA V))) (sp_fac (sp_P (vA V))) (by omega) (by omega) (sp_fac_pos _) rfl (nI_l (by omega)) ⟨_, rfl, hH⟩
      · intro s hs ih
        have es : sp_dec (vA V) p (s + 1) = sp_dec (vA V) p s + cond (sp_sw (vA V) s p) (sp_fac (sp_bits s) * sp_fac (sp_P (vA V) - 1 - sp_bits s)) 0 := rfl
        rw [es] at ih
        apply sg140_23
        rw [K]
        refine mv_gdI rfl (ct29 i.1.1.1.1 m.ok ⟨_, rfl, ?_⟩)
        refine mx_ltF (2 ^ sp_P (vA V) - 1) s (by omega) ?_ (by omega)
        rw [K, nI_1, mx_305 s (by omega)]
        refine mv_gdI rfl (ct33 p s i.1.1.1.1 m.ok hs hp rfl rfl ⟨_, rfl, ?_⟩)
        cases z : sp_sw (vA V) s p with
        | false => rw [if_pos (by rfl)]; rw [z] at ih; exact ih
        | true =>
          have sb := sp_sw_bits m.ok hs hp z
          have f1 := sp_fac_le (sp_bits s) (by omega)
          have f2 := sp_fac_le (sp_P (vA V) - 1 - sp_bits s) (by omega)
          rw [if_neg (by decide)]
          rw [z, cond_true] at ih
          refine ct141 _ hO (by omega) rfl ⟨_, rfl, ?_⟩
          rw [K, v0]
          refine mv_gdI rfl (ct141 (sp_P (vA V) - 1 - sp_bits s) hO (by omega) ?_ ⟨_, rfl, ?_⟩)
          · rw [show nI (sp_P (vA V)) - (1 : Int32) = nI (sp_P (vA V) - 1) from pk_sub (b := 1) (by omega), pk_sub (by omega)]
          · rw [nI_l (by omega), nI_l (by omega), lN_mul, lN_add]
            exact ih
    · rw [if_neg (fun c => of_decide_eq_false z2 c.2)] at hH; exact hH
theorem cm261 {E : mv_E} {D k n : Nat} {h : mv_H} {Q : mv_Q} {V : vw} {x y : Int32} (e : vw_of h = V) (m : InvM V) (H : ∀ h', fM V h h' → Q (some (.int (v_power V x y))) h') : mv_VE E (D + 40) k n 261 0 [some (.ref 148), some (.int x), some (.int y), none, none] [] h Q := by
  have p2 := m.p2
  have p8 := m.p8
  have f0 := fM.of e
  have hH := H _ f0
  have e1 : pf210 (mv_sI h 148 0 0) x.toInt64 = pn (vA V) x := by rw [pn210 (by rw [f0.A]; exact m.ok), f0.A]
  apply sg261_0
  unfold v_power at hH
  refine mx_cdb _ e1 (fun z1 => ?_) (fun z1 => ?_)
  · refine mx_cdb _ (mx_w01 y) (fun z2 => ?_) (fun z2 => ?_)
    · rw [if_pos ⟨z1, of_decide_eq_true z2⟩] at hH
      obtain ⟨p, hp, rfl⟩ := pnT m.ok z1
      rw [nI_clamp (by omega)] at hH
      have dl := sp_dec_le m.ok hp (2 ^ sp_P (vA V)) (Nat.le_refl _)
      have fl := sp_fac_le (sp_P (vA V)) p8
      have fp := sp_fac_pos (sp_P (vA V))
      refine cw262 p f0 m hp rfl ⟨_, rfl, ?_⟩
      rw [f0.A, m.ok.1]
      refine mv_V.up (ct265 (sp_P (vA V)) (D := 0) p8 rfl ⟨_, rfl, ?_⟩) (by omega)
      generalize sp_dec (vA V) p (2 ^ sp_P (vA V)) = a at hH dl
      generalize sp_fac (sp_P (vA V)) = b at hH fl fp
      have gp : 0 < Nat.gcd a b := Nat.gcd_pos_of_pos_right a fp
      have gl : Nat.gcd a b ≤ b := Nat.gcd_le_right a fp
      have ne : ¬ nI (Nat.gcd a b) = 0 := nI_ne0 gp (by omega)
      refine mx_if (fun q => ?_) (fun q => ?_)
      · rw [if_pos q] at hH
        refine mv_V.up (ct266 16 (D := 0) a b (by omega) (by omega) (by omega) rfl rfl ⟨_, rfl, mv_gdI (by rw [decide_eq_false ne]; rfl) ?_⟩) (by omega)
        rw [pk_div (by omega) gp (by omega)]; exact hH
      · rw [if_neg q] at hH
        refine mv_V.up (ct266 16 (D := 0) a b (by omega) (by omega) (by omega) rfl rfl ⟨_, rfl, mv_gdI (by rw [decide_eq_false ne]; rfl) ?_⟩) (by omega)
        rw [pk_div (by omega) gp (by omega)]; exact hH
    · rw [if_neg (fun c => of_decide_eq_false z2 c.2)] at hH; exact hH
  · rw [if_neg (fun c => by rw [z1] at c; exact absurd c.1 (by decide))] at hH; exact hH
-- winning
def sp_jr (A : Nat → Int32) (s : Nat) : Nat → Nat → Bool
  | 0, _ => true
  | g + 1, p => if s.testBit p = true ∧ sp_q A (mx_wo s (2 ^ p)) = true then false else sp_jr A s g (p + 1)
def sp_jw (A : Nat → Int32) (s : Nat) : Bool := sp_q A s && sp_jr A s (sp_P A) 0
theorem ct36 {E : mv_E} {D k n : Nat} {h : mv_H} {Q : mv_Q} {r : Nat} {A : Nat → Int32} {x1 : Int32} (s : Nat) (cr : cr_ok E h r A) (ok : sp_ok A) (hs : s < 2 ^ sp_P A) (e1 : x1 = nI s) (H : Q (some (.int (nI (sp_jw A s).toNat))) h) : mv_VE E (D + 1) k n 36 0 [some (.ref r), some (.int x1), none] [] h Q := by
  subst e1
  have p2 := mx_p2 ok.2.1
  have p8 := ok.2.1
  have K := cr.1.2.1
  have q1 := cr.2.1.2.1
  have v0 := cr.2.1.1.trans ok.1
  apply sg36_0
  unfold sp_jw at H
  rw [K]
  refine mv_gdI rfl (ct34 s cr ok (by omega) rfl ⟨_, rfl, ?_⟩)
  rw [K, q1]
  refine mv_gdI rfl (mx_if (fun q => ?_) (fun q => ?_))
  · have z : sp_q A s = false := by unfold sp_q; rw [decide_eq_true q]; rfl
    rw [z] at H; exact H
  · have z : sp_q A s = true := by unfold sp_q; rw [decide_eq_false q]; rfl
    rw [z, Bool.true_and] at H
    have key : ∀ g p, p + g = sp_P A → Q (some (.int (nI (sp_jr A s g p).toNat))) h → mv_VE E (D + 1) k n 36 16 [some (.ref r), some (.int (nI s)), some (.int (nI p))] [] h Q := by
      intro g
      induction g with
      | zero =>
        intro p hp H
        apply sg36_16
        rw [K, v0]
        exact mv_gdI rfl (mx_ltF p (sp_P A) (by omega) H (by omega))
      | succ g ih =>
        intro p hp H
        have wl : mx_wo s (2 ^ p) < 2 ^ sp_P A := mx_wo_lt hs
        unfold sp_jr at H
        apply sg36_16
        rw [K, v0, mx_1shl (by omega), mx_andn, nI_1]
        refine mv_gdI rfl (mx_ltT p (sp_P A) (by omega) ?_ (by omega))
        refine mx_ifb _ (mx_bit0 (by omega) (by omega)) (fun b => ?_) (fun b => ?_)
        · rw [if_neg (fun c => by rw [b] at c; exact absurd c.1 (by decide))] at H
          exact ih (p + 1) (by omega) H
        · refine mv_gdI rfl (ct34 (mx_wo s (2 ^ p)) cr ok (by omega) rfl ⟨_, rfl, ?_⟩)
          rw [K, q1]
          refine mv_gdI rfl (mx_if (fun q => ?_) (fun q => ?_))
          · have z : sp_q A (mx_wo s (2 ^ p)) = false := by unfold sp_q; rw [decide_eq_true q]; rfl
            rw [if_neg (fun c => by rw [z] at c; exact absurd c.2 (by decide))] at H
            exact ih (p + 1) (by omega) H
          · have z : sp_q A (mx_wo s (2 ^ p)) = true := by unfold sp_q; rw [decide_eq_false q]; rfl
            rw [if_pos ⟨b, z⟩] at H
            exact H
    exact key (sp_P A) 0 (by omega) H
theorem cw270 {E : mv_E} {D k n : Nat} {h0 h : mv_H} {Q : mv_Q} {V : vw} {x : Int32} (s : Nat) (f : fM V h0 h) (m : InvM V) (hs : s < 2 ^ sp_P (vA V)) (e : x = nI s) (H : Q (some (.int (nI (sp_jw (vA V) s).toNat))) h) : mv_VE E (D + 3) k n 270 0 [some (.ref 148), some (.int x), none] [] h Q := by
  subst e
  have p2 := m.p2
  have p8 := m.p8
  apply sg270_0
  unfold sp_jw at H
  refine cw264 s f m (by omega) rfl ⟨_, rfl, ?_⟩
  cases z : sp_q (vA V) s with
  | false => rw [if_pos (by rfl)]; rw [z] at H; exact H
  | true =>
    rw [if_neg (by decide)]
    rw [z, Bool.true_and] at H
    have key : ∀ g p, p + g = sp_P (vA V) → Q (some (.int (nI (sp_jr (vA V) s g p).toNat))) h → mv_VE E (D + 3) k n 270 12 [some (.ref 148), some (.int (nI s)), some (.int (nI p))] [] h Q := by
      intro g
      induction g with
      | zero =>
        intro p hp H
        apply sg270_12
        rw [f.A, m.ok.1]
        exact mx_ltF p (sp_P (vA V)) (by omega) H (by omega)
      | succ g ih =>
        intro p hp H
        have wl : mx_wo s (2 ^ p) < 2 ^ sp_P (vA V) := mx_wo_lt hs
        unfold sp_jr at H
        apply sg270_12
        rw [f.A, m.ok.1, mx_1shl (by omega), mx_andn, nI_1]
        refine mx_ltT p (sp_P (vA V)) (by omega) ?_ (by omega)
        refine mx_cdb _ (mx_isIn (by omega) (by omega)) (fun b => ?_) (fun b => ?_)
        · refine cw264 (mx_wo s (2 ^ p)) f m (by omega) rfl ⟨_, rfl, ?_⟩
          cases z : sp_q (vA V) (mx_wo s (2 ^ p)) with
          | false =>
            rw [if_pos (by rfl)]
            rw [if_neg (fun c => by rw [z] at c; exact absurd c.2 (by decide))] at H
            exact ih (p + 1) (by omega) H
          | true =>
            rw [if_neg (by decide)]
            rw [if_pos ⟨b, z⟩] at H
            exact H
        · rw [if_neg (fun c => by rw [b] at c; exact absurd c.1 (by decide))] at H
          exact ih (p + 1) (by omega) H
    exact key (sp_P (vA V)) 0 (by omega) H
def sp_wn (A : Nat → Int32) : Nat → Nat × Option Nat := mx_fold (fun s a => cond (sp_jw A s) (a.1 + 1, match a.2 with
  | none => some (sp_bits s)
  | some b => if sp_bits s < b then some (sp_bits s) else some b) a) (0, none)
theorem sp_wn_s (A : Nat → Int32) (s : Nat) : sp_wn A (s + 1) = cond (sp_jw A s) ((sp_wn A s).1 + 1, match (sp_wn A s).2 with
  | none => some (sp_bits s)
  | some b => if sp_bits s < b then some (sp_bits s) else some b) (sp_wn A s) := rfl
theorem sp_wn_l (A : Nat → Int32) : ∀ s b, (sp_wn A s).2 = some b → b ≤ 8
  | 0, b, h => by cases h
  | s + 1, b, h => by
    rw [sp_wn_s] at h
    cases z : sp_jw A s with
    | false => rw [z] at h; exact sp_wn_l A s b h
    | true =>
      rw [z, cond_true] at h
      have l := sp_bits_le s
      match w : (sp_wn A s).2, h with
      | none, h => cases h; exact l
      | some c, h =>
        have ih := sp_wn_l A s c w
        by_cases d : sp_bits s < c
        · dsimp only at h
          rw [if_pos d] at h; cases h; exact l
        · dsimp only at h
          rw [if_neg d] at h; cases h; exact ih
def v_winning (V : vw) (y : Int32) : Int32 := if y = 0 ∨ y = 1 then (if y = 0 then nI (sp_wn (vA V) (2 ^ sp_P (vA V))).1 else mx_o (sp_wn (vA V) (2 ^ sp_P (vA V))).2) else -2
theorem cc146 {E : mv_E} {D k n : Nat} {h : mv_H} {Q : mv_Q} {V : vw} {y : Int32} (i : InvC E h V) (m : InvM V) (H : ∀ h', InvC E h' V → fCl h h' → Q (some (.int (v_winning V y))) h') : mv_VE E (D + 2) k n 146 0 [some (.ref 50), some (.int y), none, none, none, none] [] h Q := by
  have hH := H h i fCl.rf
  have p2 := m.p2
  have p1 : 0 < 2 ^ sp_P (vA V) := Nat.pow_pos (by omega)
  have K := i.1.1.1.1.1.2.1
  apply sg146_0
  unfold v_winning at hH
  refine mx_cdb _ (mx_128 y) (fun z2 => ?_) (fun z2 => ?_)
  · rw [if_pos (of_decide_eq_true z2)] at hH
    refine mx_loop (P := fun s => mv_VE E (D + 2) k n 146 17 [some (.ref 50), some (.int y), some (.int (nI (sp_wn (vA V) s).1)), some (.int (mx_o (sp_wn (vA V) s).2)), some (.int (nI s)), none] [] h Q) (2 ^ sp_P (vA V)) ?_ ?_
    · apply sg146_17
      rw [K]
      refine mv_gdI rfl (ct29 i.1.1.1.1 m.ok ⟨_, rfl, ?_⟩)
      refine mx_ltT _ _ (show 2 ^ sp_P (vA V) - 1 < 2 ^ sp_P (vA V) by omega) ?_ (by omega)
      refine mx_if (fun q => ?_) (fun q => ?_)
      · rw [if_pos q] at hH; exact hH
      · rw [if_neg q] at hH; exact hH
    · intro s hs ih
      rw [sp_wn_s] at ih
      have l := sp_bits_le s
      apply sg146_17
      rw [K]
      refine mv_gdI rfl (ct29 i.1.1.1.1 m.ok ⟨_, rfl, ?_⟩)
      refine mx_ltF (2 ^ sp_P (vA V) - 1) s (by omega) ?_ (by omega)
      rw [K, nI_1, nI_1, mx_305 s (by omega)]
      refine mv_gdI rfl (ct36 s i.1.1.1.1 m.ok hs rfl ⟨_, rfl, ?_⟩)
      cases z : sp_jw (vA V) s with
      | false => rw [if_pos (by rfl)]; rw [z] at ih; exact ih
      | true =>
        rw [if_neg (by decide)]
        rw [z, cond_true] at ih
        match w : (sp_wn (vA V) s).2, ih with
        | none, ih => rw [if_pos (by rfl)]; exact ih
        | some b, ih =>
          have bl := sp_wn_l (vA V) s b w
          rw [if_neg (show ¬ mx_o (some b) = -1 from mx_m1n (by omega))]
          by_cases c : sp_bits s < b
          · rw [if_pos (show nI (sp_bits s) < mx_o (some b) from (nI_ltI (by omega) (by omega)).mpr c)]
            dsimp only at ih
            rw [if_pos c] at ih; exact ih
          · rw [if_neg (show ¬ nI (sp_bits s) < mx_o (some b) from fun d => c ((nI_ltI (by omega) (by omega)).mp d))]
            dsimp only at ih
            rw [if_neg c] at ih; exact ih
  · rw [if_neg (of_decide_eq_false z2)] at hH; exact hH
theorem cm269 {E : mv_E} {D k n : Nat} {h : mv_H} {Q : mv_Q} {V : vw} {y : Int32} (e : vw_of h = V) (m : InvM V) (H : ∀ h', fM V h h' → Q (some (.int (v_winning V y))) h') : mv_VE E (D + 4) k n 269 0 [some (.ref 148), some (.int y), none, none, none] [] h Q := by
  have p2 := m.p2
  have p1 : 0 < 2 ^ sp_P (vA V) := Nat.pow_pos (by omega)
  have f0 := fM.of e
  have hH := H _ f0
  apply sg269_0
  unfold v_winning at hH
  refine mx_cdb _ (mx_w01 y) (fun z2 => ?_) (fun z2 => ?_)
  · rw [if_pos (of_decide_eq_true z2)] at hH
    refine mx_loop (P := fun s => mv_VE E (D + 4) k n 269 25 [some (.ref 148), some (.int y), some (.int (nI (sp_wn (vA V) s).1)), some (.int (mx_o (sp_wn (vA V) s).2)), some (.int (nI s))] [] (mv_sI h 148 0 0) Q) (2 ^ sp_P (vA V)) ?_ ?_
    · apply sg269_25
      rw [cw219 f0 m]
      refine mx_ltT _ _ (show 2 ^ sp_P (vA V) - 1 < 2 ^ sp_P (vA V) by omega) ?_ (by omega)
      refine mx_if (fun q => ?_) (fun q => ?_)
      · rw [if_pos q] at hH; exact hH
      · rw [if_neg q] at hH; exact hH
    · intro s hs ih
      rw [sp_wn_s] at ih
      have l := sp_bits_le s
      apply sg269_25
      rw [cw219 f0 m, nI_1, nI_1]
      refine mx_ltF (2 ^ sp_P (vA V) - 1) s (by omega) ?_ (by omega)
      refine cw270 s f0 m hs rfl ⟨_, rfl, ?_⟩
      cases z : sp_jw (vA V) s with
      | false => rw [if_pos (by rfl)]; rw [z] at ih; exact ih
      | true =>
        rw [if_neg (by decide)]
        rw [z, cond_true] at ih
        match w : (sp_wn (vA V) s).2, ih with
        | none, ih => rw [if_pos (by rfl)]; exact ct214 s (by omega) rfl ⟨_, rfl, ih⟩
        | some b, ih =>
          have bl := sp_wn_l (vA V) s b w
          rw [if_neg (show ¬ mx_o (some b) = -1 from mx_m1n (by omega))]
          refine ct214 s (by omega) rfl ⟨_, rfl, ?_⟩
          refine mx_lt (sp_bits s) b (fun c => ?_) (fun c => ?_) (by omega) (by omega)
          · dsimp only at ih
            rw [if_pos c] at ih
            exact ct214 s (by omega) rfl ⟨_, rfl, ih⟩
          · dsimp only at ih
            rw [if_neg (by omega)] at ih; exact ih
  · rw [if_neg (of_decide_eq_false z2)] at hH; exact hH
