/-! Calls: spark, cut, holder, count. -/
-- spark
def sp_sk (A : Nat → Int32) : Nat → Option (Nat × Nat) := mx_fold (fun p o => cond ((sp_hold A).testBit p) (match o with
  | none => some (p, sp_bits (sp_it A (mx_wo (sp_hold A) (2 ^ p)) 8))
  | some q => if sp_bits (sp_it A (mx_wo (sp_hold A) (2 ^ p)) 8) < q.2 then some (p, sp_bits (sp_it A (mx_wo (sp_hold A) (2 ^ p)) 8)) else some q) o) none
def v_spark (V : vw) (y : Int32) : Int32 := if y = 0 ∨ y = 1 then (if y = 0 then mx_o ((sp_sk (vA V) (sp_P (vA V))).map (fun q => q.1)) else mx_o ((sp_sk (vA V) (sp_P (vA V))).map (fun q => q.2))) else -2
theorem sp_sk_s (A : Nat → Int32) (p : Nat) : sp_sk A (p + 1) = cond ((sp_hold A).testBit p) (match sp_sk A p with
  | none => some (p, sp_bits (sp_it A (mx_wo (sp_hold A) (2 ^ p)) 8))
  | some q => if sp_bits (sp_it A (mx_wo (sp_hold A) (2 ^ p)) 8) < q.2 then some (p, sp_bits (sp_it A (mx_wo (sp_hold A) (2 ^ p)) 8)) else some q) (sp_sk A p) := rfl
theorem sp_sk_l (A : Nat → Int32) : ∀ p q, sp_sk A p = some q → q.1 < p ∧ q.2 ≤ 8
  | 0, q, h => by cases h
  | p + 1, q, h => by
    rw [sp_sk_s] at h
    cases b : (sp_hold A).testBit p with
    | false =>
      rw [b] at h
      have := sp_sk_l A p q h
      omega
    | true =>
      rw [b, cond_true] at h
      have l := sp_bits_le (sp_it A (mx_wo (sp_hold A) (2 ^ p)) 8)
      match w : sp_sk A p, h with
      | none, h => cases h; exact ⟨by omega, l⟩
      | some r, h =>
        have ih := sp_sk_l A p r w
        by_cases c : sp_bits (sp_it A (mx_wo (sp_hold A) (2 ^ p)) 8) < r.2
        · have h : (if sp_bits (sp_it A (mx_wo (sp_hold A) (2 ^ p)) 8) < r.2 then some (p, sp_bits (sp_it A (mx_wo (sp_hold A) (2 ^ p)) 8)) else some r) = some q := h
          rw [if_pos c] at h
          cases h; exact ⟨by omega, l⟩
        · have h : (if sp_bits (sp_it A (mx_wo (sp_hold A) (2 ^ p)) 8) < r.2 then some (p, sp_bits (sp_it A (mx_wo (sp_hold A) (2 ^ p)) 8)) else some r) = some q := h
          rw [if_neg c] at h
          cases h; exact ⟨by omega, ih.2⟩
theorem cc136 {E : mv_E} {D k n : Nat} {h : mv_H} {Q : mv_Q} {V : vw} {y : Int32} (i : InvC E h V) (m : InvM V) (H : ∀ h', InvC E h' V → fCl h h' → Q (some (.int (v_spark V y))) h') : mv_VE E (D + 5) k n 136 0 [some (.ref 50), some (.int y), none, none, none, none] [] h Q := by
  have p2 := m.p2
  have p8 := m.p8
  have hh := m.1.1.hold
  apply sg136_0
  unfold v_spark at H
  refine mx_cdb _ (mx_128 y) (fun q => ?_) (fun q => ?_)
  · rw [if_pos (of_decide_eq_true q)] at H
    refine cc51 i m rfl (fun h1 f1 s1 => ⟨rfl, ?_⟩)
    refine mx_loop (P := fun p => ∀ h', InvS E h' V → fCl h h' → mv_VE E (D + 5) k n 136 32 [some (.ref 50), some (.int y), some (.int (mx_o ((sp_sk (vA V) p).map (fun q => q.1)))), some (.int (mx_o ((sp_sk (vA V) p).map (fun q => q.2)))), some (.int (nI p)), none] [] h' Q) (sp_P (vA V)) ?_ ?_ h1 s1 f1.fC6
    · intro h' i' f'
      have hH := H h' (i'.C m) f'
      apply sg136_32
      rw [i'.K, i'.P m]
      refine mv_gdI rfl ?_
      refine mx_ltF (sp_P (vA V)) (sp_P (vA V)) (Nat.le_refl _) ?_ (by omega)
      refine mx_if (fun r => ?_) (fun r => ?_)
      · rw [if_pos r] at hH; exact hH
      · rw [if_neg r] at hH; exact hH
    · intro p hp ih h' i' f'
      rw [sp_sk_s] at ih
      have wl : mx_wo (sp_hold (vA V)) (2 ^ p) < 2 ^ sp_P (vA V) := mx_wo_lt hh.2
      have l8 := sp_it_lt (A := vA V) wl 8
      have lb := sp_bits_le (sp_it (vA V) (mx_wo (sp_hold (vA V)) (2 ^ p)) 8)
      apply sg136_32
      rw [i'.K, i'.P m, i'.hold m, mx_1shl (by omega), mx_andn, nI_1]
      refine mv_gdI rfl ?_
      refine mx_ltT p (sp_P (vA V)) hp ?_ (by omega)
      refine mx_ifb ((sp_hold (vA V)).testBit p) (mx_bit0 (by omega) (by omega)) (fun b => ?_) (fun b => ?_)
      · rw [b] at ih; exact ih h' i' f'
      · rw [b, cond_true] at ih
        refine cs60 _ i' f' m wl rfl (fun h2 i2 f2 => ⟨_, rfl, ?_⟩)
        have ih2 := ih h2 i2 f2
        rw [mx_305 _ (by omega)]
        match w : sp_sk (vA V) p, ih2 with
        | none, ih2 => rw [if_pos (by rfl)]; exact ih2
        | some r, ih2 =>
          have lr := sp_sk_l (vA V) p r w
          rw [if_neg (show ¬ mx_o (Option.map (fun q : Nat × Nat => q.1) (some r)) = -1 from mx_m1n (show r.1 < 2 ^ 31 by omega))]
          refine mx_lt (sp_bits (sp_it (vA V) (mx_wo (sp_hold (vA V)) (2 ^ p)) 8)) r.2 (fun c => ?_) (fun c => ?_) (by omega) (by omega)
          · dsimp only at ih2
            rw [if_pos c] at ih2; exact ih2
          · dsimp only at ih2
            rw [if_neg (by omega)] at ih2; exact ih2
  · rw [if_neg (of_decide_eq_false q)] at H
    exact H h i fCl.rf
theorem cm256 {E : mv_E} {D k n : Nat} {h : mv_H} {Q : mv_Q} {V : vw} {y : Int32} (e : vw_of h = V) (m : InvM V) (H : ∀ h', fM V h h' → Q (some (.int (v_spark V y))) h') : mv_VE E (D + 5) k n 256 0 [some (.ref 148), some (.int y), none, none, none, none] [] h Q := by
  have p2 := m.p2
  have p8 := m.p8
  have hh := m.1.1.hold
  have f0 := fM.of e
  apply sg256_0
  unfold v_spark at H
  refine mx_cdb _ (mx_w01 y) (fun q => ?_) (fun q => ?_)
  · rw [if_pos (of_decide_eq_true q)] at H
    refine mx_loop (P := fun p => ∀ h', fM V h h' → mv_VE E (D + 5) k n 256 25 [some (.ref 148), some (.int y), some (.int (mx_o ((sp_sk (vA V) p).map (fun q => q.1)))), some (.int (mx_o ((sp_sk (vA V) p).map (fun q => q.2)))), some (.int (nI p)), none] [] h' Q) (sp_P (vA V)) ?_ ?_ _ f0
    · intro h' f'
      have hH := H h' f'
      apply sg256_25
      rw [f'.A, m.ok.1]
      refine mx_ltF (sp_P (vA V)) (sp_P (vA V)) (Nat.le_refl _) ?_ (by omega)
      refine mx_if (fun r => ?_) (fun r => ?_)
      · rw [if_pos r] at hH; exact hH
      · rw [if_neg r] at hH; exact hH
    · intro p hp ih h' f'
      rw [sp_sk_s] at ih
      have wl : mx_wo (sp_hold (vA V)) (2 ^ p) < 2 ^ sp_P (vA V) := mx_wo_lt hh.2
      have l8 := sp_it_lt (A := vA V) wl 8
      have lb := sp_bits_le (sp_it (vA V) (mx_wo (sp_hold (vA V)) (2 ^ p)) 8)
      apply sg256_25
      rw [f'.A, m.ok.1, hh.1, mx_1shl (by omega), mx_andn, nI_1]
      refine mx_ltT p (sp_P (vA V)) hp ?_ (by omega)
      refine mx_cdb ((sp_hold (vA V)).testBit p) (mx_isIn (by omega) (by omega)) (fun b => ?_) (fun b => ?_)
      · rw [b, cond_true] at ih
        refine cw249 _ f' m (by omega) rfl (fun h2 f2 _ _ => ⟨_, rfl, ?_⟩)
        rw [sp_stl8 (by omega)]
        refine ct214 _ (by omega) rfl ⟨_, rfl, ?_⟩
        have ih2 := ih h2 f2
        match w : sp_sk (vA V) p, ih2 with
        | none, ih2 => rw [if_pos (by rfl)]; exact ih2
        | some r, ih2 =>
          have lr := sp_sk_l (vA V) p r w
          rw [if_neg (show ¬ mx_o (Option.map (fun q : Nat × Nat => q.1) (some r)) = -1 from mx_m1n (show r.1 < 2 ^ 31 by omega))]
          refine mx_lt (sp_bits (sp_it (vA V) (mx_wo (sp_hold (vA V)) (2 ^ p)) 8)) r.2 (fun c => ?_) (fun c => ?_) (by omega) (by omega)
          · dsimp only at ih2
            rw [if_pos c] at ih2; exact ih2
          · dsimp only at ih2
            rw [if_neg (by omega)] at ih2; exact ih2
      · rw [b] at ih; exact ih h' f'
  · rw [if_neg (of_decide_eq_false q)] at H
    exact H _ f0
-- cut
def sp_two (A : Nat → Int32) (p q : Nat) : Nat := mx_wo (sp_hold A) (2 ^ p ||| 2 ^ q)
def v_cut (V : vw) (x y z : Int32) : Int32 := if pn (vA V) x = true ∧ pn (vA V) y = true ∧ x ≠ y ∧ (z = 0 ∨ z = 1) then
  (cond ((sp_hold (vA V)).testBit x.toNatClampNeg && (sp_hold (vA V)).testBit y.toNatClampNeg) (v_told (sp_fw (fun s => sp_sb s (sp_two (vA V) x.toNatClampNeg y.toNatClampNeg) && !(sp_piece (sp_B (vA V)) (sp_P (vA V)) (mx_wo (sp_hold (vA V)) s) x.toNatClampNeg).testBit y.toNatClampNeg) (2 ^ sp_P (vA V))) z) (-5)) else -2
theorem sp_piece_lt {B : Nat → Nat} {P s p n : Nat} (hs : s < 2 ^ n) (h8 : n ≤ 8) (hp : s.testBit p = true) : sp_piece B P s p < 2 ^ n := sp_sub_lt (sp_piece_ok (by have := mx_p2 h8; omega) hp).2.1 hs
theorem sp_two_sub (A : Nat → Int32) (p q : Nat) : sp_sub (sp_two A p q) (sp_hold A) := mx_wo_sub _ _
theorem sp_two_p {A : Nat → Int32} {p q s : Nat} (h : sp_sub s (sp_two A p q)) (hp : (sp_hold A).testBit p = true) : (mx_wo (sp_hold A) s).testBit p = true := by
  rw [mx_wo_bit, hp]
  cases z : s.testBit p with
  | false => rfl
  | true =>
    have := h p z
    unfold sp_two at this
    rw [mx_wo_bit, Nat.testBit_or, Nat.testBit_two_pow] at this
    simp at this
theorem mx_hold2 {s p q : Nat} (hs : s < 256) (hp : p < 8) (hq : q < 8) : (nI s &&& (nI (2 ^ p) ||| nI (2 ^ q)) = nI (2 ^ p) ||| nI (2 ^ q)) ↔ (s.testBit p && s.testBit q) = true := by
  have l1 : 2 ^ p < 2 ^ 8 := Nat.pow_lt_pow_right (by omega) hp
  have l2 : 2 ^ q < 2 ^ 8 := Nat.pow_lt_pow_right (by omega) hq
  have l3 : 2 ^ p ||| 2 ^ q < 2 ^ 8 := Nat.or_lt_two_pow l1 l2
  rw [mx_or, mx_and, nI_eq (Nat.lt_of_le_of_lt Nat.and_le_left (by omega)) (by omega), Bool.and_eq_true]
  constructor
  · intro e
    refine ⟨?_, ?_⟩
    · have : (s &&& (2 ^ p ||| 2 ^ q)).testBit p = true := by rw [e, Nat.testBit_or, Nat.testBit_two_pow]; simp
      rw [Nat.testBit_and, Bool.and_eq_true] at this
      exact this.1
    · have : (s &&& (2 ^ p ||| 2 ^ q)).testBit q = true := by rw [e, Nat.testBit_or, Nat.testBit_two_pow, Nat.testBit_two_pow]; simp
      rw [Nat.testBit_and, Bool.and_eq_true] at this
      exact this.1
  · rintro ⟨a, b⟩
    apply Nat.eq_of_testBit_eq
    intro j
    rw [Nat.testBit_and, Nat.testBit_or, Nat.testBit_two_pow, Nat.testBit_two_pow]
    by_cases c : p = j
    · subst c; rw [a]; simp
    · by_cases d : q = j
      · subst d; rw [b]; simp
      · simp [c, d]
theorem cc137 {E : mv_E} {D k n : Nat} {h : mv_H} {Q : mv_Q} {V : vw} {x y z : Int32} (i : InvC E h V) (m : InvM V) (H : ∀ h', InvC E h' V → fCl h h' → Q (some (.int (v_cut V x y z))) h') : mv_VE E (D + 2) k n 137 0 [some (.ref 50), some (.int x), some (.int y), some (.int z), none, none, none, none] [] h Q := by
  have p2 := m.p2
  have p8 := m.p8
  have hh := m.1.1.hold
  have hH := H h i fCl.rf
  have eh : mv_I h 81 0 = nI (sp_hold (vA V)) := i.1.1.2.1.1.trans hh.1
  apply sg137_0
  unfold v_cut at hH
  refine cc104 i.1 m ⟨_, rfl, ?_⟩
  cases z1 : pn (vA V) x with
  | false => rw [if_pos (by rfl)]; rw [if_neg (fun c => by rw [z1] at c; exact absurd c.1 (by decide))] at hH; exact hH
  | true =>
  rw [if_neg (by decide)]
  refine cc104 i.1 m ⟨_, rfl, ?_⟩
  cases z2 : pn (vA V) y with
  | false => rw [if_pos (by rfl)]; rw [if_neg (fun c => by rw [z2] at c; exact absurd c.2.1 (by decide))] at hH; exact hH
  | true =>
  rw [if_neg (by decide)]
  refine mx_if (fun z3 => ?_) (fun z3 => ?_)
  · rw [if_neg (fun c => c.2.2.1 z3)] at hH; exact hH
  refine mx_cdb _ (mx_128 z) (fun z4 => ?_) (fun z4 => ?_)
  · have z4 := of_decide_eq_true z4
    rw [if_pos ⟨z1, z2, z3, z4⟩] at hH
    obtain ⟨p, hp, rfl⟩ := pnT m.ok z1
    obtain ⟨q, hq, rfl⟩ := pnT m.ok z2
    rw [nI_clamp (by omega), nI_clamp (by omega)] at hH
    rw [eh, mx_1shl (by omega), mx_1shl (by omega)]
    refine mx_if (fun c => ?_) (fun c => ?_)
    · have c := (mx_hold2 (by omega) (by omega) (by omega)).mp c
      rw [c, cond_true, sp_fw_ge (M := sp_two (vA V) p q + 1) (fun s hs => by
        cases w : sp_sb s (sp_two (vA V) p q) with
        | false => rfl
        | true => have := sp_sub_le (sp_sbE.mp w); omega) _ (by have := sp_sub_lt (sp_two_sub (vA V) p q) hh.2; omega)] at hH
      rw [Bool.and_eq_true] at c
      have tl := sp_sub_lt (sp_two_sub (vA V) p q) hh.2
      rw [mx_or, mx_andn]
      refine mx_loop (P := fun s => mv_VE E (D + 2) k n 137 78 [some (.ref 50), some (.int (nI p)), some (.int (nI q)), some (.int z), none, some (.int (nI (sp_two (vA V) p q))), some (.int (mx_o (sp_fw (fun s => sp_sb s (sp_two (vA V) p q) && !(sp_piece (sp_B (vA V)) (sp_P (vA V)) (mx_wo (sp_hold (vA V)) s) p).testBit q) s))), some (.int (nI s))] [] h Q) (sp_two (vA V) p q + 1) ?_ ?_
      · apply sg137_78
        refine mx_ltT (sp_two (vA V) p q) _ (Nat.lt_succ_self _) ?_ (by omega)
        rw [mx_135 (sp_fw_l _ _ (by omega))]
        exact hH
      · intro s hs ih
        have wl : mx_wo (sp_hold (vA V)) s < 2 ^ sp_P (vA V) := mx_wo_lt hh.2
        apply sg137_78
        rw [eh, mx_andn (sp_hold (vA V)) s, nI_1, i.1.1.1.1.1.2.1]
        refine mx_ltF (sp_two (vA V) p q) s (by omega) ?_ (by omega)
        refine mx_if (fun w => ?_) (fun w => ?_)
        · have sb := (mx_sub0 (by omega)).mp w
          refine mx_cdb _ (mx_133 (by omega) (sp_fw_l _ _ (by omega))) (fun z2 => ?_) (fun z2 => ?_)
          · have hb := sp_two_p sb c.1
            refine mv_gdI rfl (ct32 p _ i.1.1.1.1 m.ok wl hb rfl rfl ⟨_, rfl, ?_⟩)
            have pl := sp_piece_lt (B := sp_B (vA V)) (P := sp_P (vA V)) wl p8 hb
            refine mx_ifb _ (mx_bit0 (by omega) (by omega)) (fun b => ?_) (fun b => ?_)
            · rw [sp_fw_step (by rw [sp_sbE.mpr sb, b]; rfl), if_pos z2] at ih; exact ih
            · rw [sp_fw_no (fun d => by have := d.1; rw [b, Bool.not_true, Bool.and_false] at this; cases this)] at ih; exact ih
          · rw [sp_fw_no (fun d => by have := d.2; rw [z2] at this; cases this)] at ih; exact ih
        · rw [sp_fw_no (fun d => by
            have := d.1
            rw [Bool.and_eq_true] at this
            exact w ((mx_sub0 (by omega)).mpr (sp_sbE.mp this.1)))] at ih
          exact ih
    · have c' : ((sp_hold (vA V)).testBit p && (sp_hold (vA V)).testBit q) = false := by
        cases w : ((sp_hold (vA V)).testBit p && (sp_hold (vA V)).testBit q) with
        | false => rfl
        | true => exact absurd ((mx_hold2 (by omega) (by omega) (by omega)).mpr w) c
      rw [c'] at hH; exact hH
  · rw [if_neg (fun c => of_decide_eq_false z4 c.2.2.2)] at hH; exact hH
theorem mx_wo2 (a b c : Nat) : mx_wo (mx_wo a b) c = mx_wo a (b ||| c) := by
  apply Nat.eq_of_testBit_eq
  intro j
  rw [mx_wo_bit, mx_wo_bit, mx_wo_bit, Nat.testBit_or]
  cases a.testBit j <;> cases b.testBit j <;> cases c.testBit j <;> rfl
theorem cw223 {E : mv_E} {D k n : Nat} {h0 h : mv_H} {Q : mv_Q} {V : vw} {x1 x2 : Int32} (s p : Nat) (f : fM V h0 h) (m : InvM V) (hs : s < 256) (hp : p < 8) (e1 : x1 = nI s) (e2 : x2 = nI p) (H : Q (some (.int (nI (sp_piece (sp_B (vA V)) (sp_P (vA V)) s p)))) h) : mv_VE E (D + 1) k n 223 0 [some (.ref 148), some (.int x1), some (.int x2), none, none, none, none] [] h Q :=
  ct223 s p (sp_P (vA V)) (sp_B (vA V)) (by rw [f.A]; exact m.ok.1) m.p8 (fun q hq => by rw [f.A]; exact (m.ok.2.2.1 q hq).1) hs hp e1 e2 H
theorem cm257 {E : mv_E} {D k n : Nat} {h : mv_H} {Q : mv_Q} {V : vw} {x y z : Int32} (e : vw_of h = V) (m : InvM V) (H : ∀ h', fM V h h' → Q (some (.int (v_cut V x y z))) h') : mv_VE E (D + 3) k n 257 0 [some (.ref 148), some (.int x), some (.int y), some (.int z), none, none, none] [] h Q := by
  have p2 := m.p2
  have p8 := m.p8
  have p1 : 0 < 2 ^ sp_P (vA V) := Nat.pow_pos (by omega)
  have hh := m.1.1.hold
  have f0 := fM.of e
  have hH := H _ f0
  have e65 : mv_I h 149 65 = nI (sp_hold (vA V)) := by rw [← hh.1, ← e]; rfl
  have e1 : ∀ x, pf210 (mv_sI h 148 0 0) x.toInt64 = pn (vA V) x := fun x => by rw [pn210 (by rw [f0.A]; exact m.ok), f0.A]
  have e2 : pf258 (mv_sI h 148 0 0) x y = (pn (vA V) x && (pn (vA V) y && !decide (x = y))) := by
    unfold pf258
    rw [e1, e1]
    cases pn (vA V) x <;> cases pn (vA V) y <;> by_cases c : x = y <;> simp [c]
  apply sg257_0
  unfold v_cut at hH
  refine mx_cdb _ e2 (fun z1 => ?_) (fun z1 => ?_)
  · rw [Bool.and_eq_true, Bool.and_eq_true, Bool.not_eq_true', decide_eq_false_iff_not] at z1
    obtain ⟨z1, z2, z3⟩ := z1
    refine mx_cdb _ (mx_w01 z) (fun z4 => ?_) (fun z4 => ?_)
    · have z4 := of_decide_eq_true z4
      rw [if_pos ⟨z1, z2, z3, z4⟩] at hH
      obtain ⟨p, hp, rfl⟩ := pnT m.ok z1
      obtain ⟨q, hq, rfl⟩ := pnT m.ok z2
      rw [nI_clamp (by omega), nI_clamp (by omega)] at hH
      rw [e65, mx_1shl (by omega), mx_1shl (by omega), mx_andn, mx_andn, mx_wo2]
      refine mx_cdb _ (mx_isIn (by omega) (by omega)) (fun c1 => ?_) (fun c1 => ?_)
      · refine mx_cdb _ (mx_isIn (by omega) (by omega)) (fun c2 => ?_) (fun c2 => ?_)
        · rw [c1, c2, Bool.true_and, cond_true] at hH
          have tl := sp_sub_lt (sp_two_sub (vA V) p q) hh.2
          refine mx_loop (P := fun s => mv_VE E (D + 3) k n 257 87 [some (.ref 148), some (.int (nI p)), some (.int (nI q)), some (.int z), some (.int (nI (sp_two (vA V) p q))), some (.int (mx_o (sp_fw (fun s => sp_sb s (sp_two (vA V) p q) && !(sp_piece (sp_B (vA V)) (sp_P (vA V)) (mx_wo (sp_hold (vA V)) s) p).testBit q) s))), some (.int (nI s))] [] (mv_sI h 148 0 0) Q) (2 ^ sp_P (vA V)) ?_ ?_
          · apply sg257_87
            rw [cw219 f0 m]
            refine mx_ltT _ _ (show 2 ^ sp_P (vA V) - 1 < 2 ^ sp_P (vA V) by omega) ?_ (by omega)
            exact ct255 _ (sp_fw_l _ _ p2) rfl ⟨_, rfl, hH⟩
          · intro s hs ih
            have wl : mx_wo (sp_hold (vA V)) s < 2 ^ sp_P (vA V) := mx_wo_lt hh.2
            apply sg257_87
            rw [cw219 f0 m, f0.A, hh.1, nI_1, mx_andn (sp_hold (vA V)) s]
            refine mx_ltF (2 ^ sp_P (vA V) - 1) s (by omega) ?_ (by omega)
            refine mx_if (fun w => ?_) (fun w => ?_)
            · have sb := (mx_sub0 (by omega)).mp w
              have hb := sp_two_p sb c1
              have pl := sp_piece_lt (B := sp_B (vA V)) (P := sp_P (vA V)) wl p8 hb
              refine cw223 _ p f0 m (by omega) (by omega) rfl rfl ⟨_, rfl, ?_⟩
              refine mx_cdb _ (mx_isIn (by omega) (by omega)) (fun b => ?_) (fun b => ?_)
              · rw [sp_fw_no (fun d => by have := d.1; rw [b, Bool.not_true, Bool.and_false] at this; cases this)] at ih; exact ih
              · rw [sp_fw_step (by rw [sp_sbE.mpr sb, b]; rfl)] at ih
                exact ct254 _ s (by omega) (sp_fw_l _ _ (by omega)) rfl rfl ⟨_, rfl, ih⟩
            · rw [sp_fw_no (fun d => by
                have := d.1
                rw [Bool.and_eq_true] at this
                exact w ((mx_sub0 (by omega)).mpr (sp_sbE.mp this.1)))] at ih
              exact ih
        · rw [c1, c2] at hH; exact hH
      · rw [c1] at hH; exact hH
    · rw [if_neg (fun c => of_decide_eq_false z4 c.2.2.2)] at hH; exact hH
  · rw [if_neg (fun c => by rw [c.1, c.2.1, decide_eq_false c.2.2.1] at z1; cases z1)] at hH; exact hH
-- count
def v_count (V : vw) (x : Int32) : Int32 := if x = 0 then vA V 1 else if x = 1 then vA V 2 else if x = 2 then vA V 65 else if x = 3 then sp_sum (vA V) 66 (sp_hold (vA V)) (sp_P (vA V)) else if x = 4 then sp_sum (vA V) 9 (2 ^ sp_P (vA V) - 1) (sp_P (vA V)) else if x = 5 then nI (sp_float (vA V) (sp_hold (vA V))).toNat else if x = 6 then vA V 74 else if x = 7 then vA V 75 else if x = 8 then vA V 76 else if x = 9 then vTd V else if x = 10 then vA V 0 else -1
theorem cc177 {E : mv_E} {D k n : Nat} {h : mv_H} {Q : mv_Q} {V : vw} {x : Int32} (i : InvC E h V) (m : InvM V) (H : ∀ h', InvC E h' V → fCl h h' → Q (some (.int (v_count V x))) h') : mv_VE E (D + 5) k n 177 0 [some (.ref 50), some (.int x)] [] h Q := by
  have p2 := m.p2
  have p8 := m.p8
  have hh := m.1.1.hold
  have hH := H h i fCl.rf
  have i0 := i.1
  obtain ⟨⟨⟨cr, -⟩, ⟨n0, n1, n2, n3⟩, ⟨pa, -⟩⟩, -, -, ⟨ta, -⟩, -⟩ := i.1
  have K := cr.1.2.1
  obtain ⟨v0, v1, v2, -⟩ := cr.2.1
  apply sg177_0
  unfold v_count at H hH
  refine mx_if (fun q => ?_) (fun q => ?_)
  · rw [if_pos q] at hH; rw [K, v0]; exact mv_gdI rfl hH
  rw [if_neg q] at hH
  simp only [if_neg q] at H
  refine mx_if (fun q => ?_) (fun q => ?_)
  · rw [if_pos q] at hH; rw [K, v1]; exact mv_gdI rfl hH
  rw [if_neg q] at hH
  simp only [if_neg q] at H
  refine mx_if (fun q => ?_) (fun q => ?_)
  · rw [if_pos q] at hH; rw [n0]; exact hH
  rw [if_neg q] at hH
  simp only [if_neg q] at H
  refine mx_if (fun q => ?_) (fun q => ?_)
  · rw [if_pos q] at hH
    refine ct68 (sp_hold (vA V)) (Or.inl rfl) (by omega) (n0.trans hh.1) ⟨_, rfl, ?_⟩
    have eb : sp_sum (mv_I h (81 + 1)) 0 (sp_hold (vA V)) 8 = sp_sum (vA V) 66 (sp_hold (vA V)) (sp_P (vA V)) := by
      rw [sp_sum_ge hh.2 8 p8]
      exact sp_sum_ext _ (fun p hp _ => by rw [Nat.zero_add, n3 p (by omega)]; show vA V (65 + (1 + p)) = _; rw [show 65 + (1 + p) = 66 + p by omega])
    rw [eb]; exact hH
  rw [if_neg q] at hH
  simp only [if_neg q] at H
  refine mx_if (fun q => ?_) (fun q => ?_)
  · rw [if_pos q] at hH; rw [K]; exact mv_gdI rfl (ct30 cr m.ok ⟨_, rfl, hH⟩)
  rw [if_neg q] at hH
  simp only [if_neg q] at H
  refine mx_if (fun q => ?_) (fun q => ?_)
  · simp only [if_pos q] at H
    exact cc108 (sp_hold (vA V)) i m hh.2 (n0.trans hh.1) (fun h2 i2 f2 => ⟨_, rfl, H h2 (i2.C m) f2⟩)
  rw [if_neg q] at hH
  refine mx_if (fun q => ?_) (fun q => ?_)
  · rw [if_pos q] at hH; rw [n1]; exact hH
  rw [if_neg q] at hH
  refine mx_if (fun q => ?_) (fun q => ?_)
  · rw [if_pos q] at hH; rw [n2]; exact hH
  rw [if_neg q] at hH
  refine mx_if (fun q => ?_) (fun q => ?_)
  · rw [if_pos q] at hH; rw [pa]; exact hH
  rw [if_neg q] at hH
  refine mx_if (fun q => ?_) (fun q => ?_)
  · rw [if_pos q] at hH; rw [ta]; exact hH
  rw [if_neg q] at hH
  refine mx_if (fun q => ?_) (fun q => ?_)
  · rw [if_pos q] at hH; rw [K, v2]; exact mv_gdI rfl hH
  rw [if_neg q] at hH
  exact hH
theorem cw221 {E : mv_E} {D k n : Nat} {h0 h : mv_H} {Q : mv_Q} {V : vw} {x1 x2 : Int32} (row s : Nat) (f : fM V h0 h) (m : InvM V) (hr : row < 3000) (hs : s < 256) (e1 : x1 = nI row) (e2 : x2 = nI s) (H : Q (some (.int (sp_sum (vA V) row s (sp_P (vA V))))) h) : mv_VE E (D + 1) k n 221 0 [some (.ref 148), some (.int x1), some (.int x2), none, none] [] h Q :=
  ct221 row s (sp_P (vA V)) (by rw [f.A]; exact m.ok.1) (by have := m.p8; omega) (by have := m.p8; omega) (by omega) e1 e2 (by rw [f.A]; exact H)
theorem cm304 {E : mv_E} {D k n : Nat} {h : mv_H} {Q : mv_Q} {V : vw} {x : Int32} (e : vw_of h = V) (m : InvM V) (H : ∀ h', fM V h h' → Q (some (.int (v_count V x))) h') : mv_VE E (D + 4) k n 304 0 [some (.ref 148), some (.int x)] [] h Q := by
  have p2 := m.p2
  have p8 := m.p8
  have p1 : 0 < 2 ^ sp_P (vA V) := Nat.pow_pos (by omega)
  have hh := m.1.1.hold
  have f0 := fM.of e
  have hH := H _ f0
  have eA : mv_I h 149 = vA V := by rw [← e]; rfl
  have eT : mv_I h 148 5 = vTd V := by rw [← e]; rfl
  apply sg304_0
  rw [eA, eT]
  unfold v_count at H hH
  refine mx_if (fun q => ?_) (fun q => ?_)
  · rw [if_pos q] at hH; exact hH
  rw [if_neg q] at hH
  simp only [if_neg q] at H
  refine mx_if (fun q => ?_) (fun q => ?_)
  · rw [if_pos q] at hH; exact hH
  rw [if_neg q] at hH
  simp only [if_neg q] at H
  refine mx_if (fun q => ?_) (fun q => ?_)
  · rw [if_pos q] at hH; exact hH
  rw [if_neg q] at hH
  simp only [if_neg q] at H
  refine mx_if (fun q => ?_) (fun q => ?_)
  · rw [if_pos q] at hH
    exact cw221 66 (sp_hold (vA V)) f0 m (by omega) (by omega) rfl hh.1 ⟨_, rfl, hH⟩
  rw [if_neg q] at hH
  simp only [if_neg q] at H
  refine mx_if (fun q => ?_) (fun q => ?_)
  · rw [if_pos q] at hH
    exact cw221 9 (2 ^ sp_P (vA V) - 1) f0 m (by omega) (by omega) rfl (cw219 f0 m) ⟨_, rfl, hH⟩
  rw [if_neg q] at hH
  simp only [if_neg q] at H
  refine mx_if (fun q => ?_) (fun q => ?_)
  · simp only [if_pos q] at H
    exact cw220 (sp_hold (vA V)) f0 m (by omega) hh.1 (fun h2 f2 => ⟨_, rfl, by rw [mx_224]; exact H h2 f2⟩)
  rw [if_neg q] at hH
  refine mx_if (fun q => ?_) (fun q => ?_)
  · rw [if_pos q] at hH; exact hH
  rw [if_neg q] at hH
  refine mx_if (fun q => ?_) (fun q => ?_)
  · rw [if_pos q] at hH; exact hH
  rw [if_neg q] at hH
  refine mx_if (fun q => ?_) (fun q => ?_)
  · rw [if_pos q] at hH; exact hH
  rw [if_neg q] at hH
  refine mx_if (fun q => ?_) (fun q => ?_)
  · rw [if_pos q] at hH; exact hH
  rw [if_neg q] at hH
  refine mx_if (fun q => ?_) (fun q => ?_)
  · rw [if_pos q] at hH; exact hH
  rw [if_neg q] at hH
  exact hH
