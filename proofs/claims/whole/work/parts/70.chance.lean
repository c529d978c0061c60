/-! Calls: chance, mean by the class. -/
def wy (h : mv_H) (w : Nat) (c : Nat → Nat) : Prop := ∀ s, s < 256 → mv_I h w s = nI (c s)
theorem wy.o {h h' : mv_H} {w : Nat} {c : Nat → Nat} (y : wy h w c) (e : mv_I h' w = mv_I h w) : wy h' w c := fun s hs => by rw [e]; exact y s hs
theorem mx_10b (T : Nat) (h : T < 256) : (10 : Int32) - pf305 (nI T) = nI (10 - sp_bits T) := by
  rw [mx_305 T h]
  exact pk_sub (a := 10) (by have := sp_bits_le T; omega)
theorem ct170 {E : mv_E} {D k n : Nat} {h : mv_H} {Q : mv_Q} {A : Nat → Int32} {b : Nat → Nat} {x1 x2 : Int32} (T cW w : Nat) (hw : w = 134 ∨ w = 135) (e15 : mv_R h 50 15 = w) (cr : cr_ok E h (mv_R h 50 3) A) (ok : sp_ok A) (hT : T < 2 ^ sp_P A) (hb : wy h w b) (e1 : x1 = nI T) (e2 : x2 = nI cW) (H : ∀ h', mx_fr (fun a _ => Nat.beq a w) h h' → wy h' w (fun s => b s + cW * sp_ct (sp_P A) T s) → Q none h') : mv_VE E (D + 1) k n 170 0 [some (.ref 50), some (.int x1), some (.int x2), none, none] [] h Q := by
  subst e1; subst e2
  have p8 := ok.2.1
  have p2 := mx_p2 p8
  have T8 : T < 256 := by omega
  have i8 : ∀ j, j < 256 → mv_in (nI j) 256 = true := fun j hj => mx_in j hj (by omega)
  apply sg170_0
  rw [e15, wy_sh hw, nI_clamp (n := T) (by omega), mx_10b T T8, hb T T8, pk_mul, nI_add]
  refine mv_gdI (by rw [i8 T T8]; rfl) (mv_gdI (by rw [i8 T T8]; rfl) ?_)
  have w0 : wy (mv_sI h w T (nI (b T + cW * (10 - sp_bits T)))) w (fun s => b s + cW * ((if T = s then 10 - sp_bits T else 0) + sp_cp T s 0)) := fun s hs => by
    rw [mx_upI]
    show _ = nI (b s + cW * ((if T = s then 10 - sp_bits T else 0) + 0))
    by_cases c : s = T
    · rw [if_pos ⟨rfl, c⟩, if_pos c.symm, c, Nat.add_zero]
    · rw [if_neg (fun d => c d.2), if_neg (fun d => c d.symm), hb s hs, Nat.add_zero, Nat.mul_zero, Nat.add_zero]
  refine mx_loop (P := fun j => ∀ h1, mx_fr (fun a _ => Nat.beq a w) h h1 → wy h1 w (fun s => b s + cW * ((if T = s then 10 - sp_bits T else 0) + sp_cp T s j)) → mv_VE E (D + 1) k n 170 20 [some (.ref 50), some (.int (nI T)), some (.int (nI cW)), some (.int (nI j)), none] [] h1 Q) (sp_P A) ?_ ?_ _ (mx_fr.sI (mv_beq w)) w0
  · intro h1 f1 y1
    have cr1 : cr_ok E h1 (mv_R h 50 3) A := cr.fz f1.z (fun a k q => mv_bne (by unfold cr_reg at q; omega))
    apply sg170_20
    rw [f1.2.2.2.2, cr1.1.2.1, cr1.2.1.1, ok.1]
    exact mv_gdI rfl (mx_ltF (sp_P A) (sp_P A) (Nat.le_refl _) (H h1 f1 y1) (by omega))
  · intro j hj ih h1 f1 y1
    have cr1 : cr_ok E h1 (mv_R h 50 3) A := cr.fz f1.z (fun a k q => mv_bne (by unfold cr_reg at q; omega))
    have es : ∀ s, sp_cp T s (j + 1) = sp_cp T s j + if T.testBit j = true ∧ mx_wo T (2 ^ j) = s then 1 else 0 := fun s => rfl
    have es1 : ∀ s, T.testBit j = true → mx_wo T (2 ^ j) = s → sp_cp T s (j + 1) = sp_cp T s j + 1 := fun s h1 h2 => by rw [es, if_pos ⟨h1, h2⟩]
    have es0 : ∀ s, ¬ (T.testBit j = true ∧ mx_wo T (2 ^ j) = s) → sp_cp T s (j + 1) = sp_cp T s j := fun s h1 => by rw [es, if_neg h1, Nat.add_zero]
    apply sg170_20
    rw [f1.2.2.2.2, cr1.1.2.1, cr1.2.1.1, ok.1, mx_1shl (by omega), mx_andn, nI_1]
    refine mv_gdI rfl (mx_ltT j (sp_P A) hj ?_ (by omega))
    refine mx_ifb (T.testBit j) (mx_andb T8 (by omega)) (fun q => ?_) (fun q => ?_)
    · refine ih h1 f1 (fun s hs => ?_)
      rw [y1 s hs]
      show nI (b s + cW * ((if T = s then 10 - sp_bits T else 0) + sp_cp T s j)) = nI (b s + cW * ((if T = s then 10 - sp_bits T else 0) + sp_cp T s (j + 1)))
      rw [es0 s (fun c => by rw [q] at c; cases c.1)]
    · have X8 : mx_wo T (2 ^ j) < 256 := mx_wo_lt (n := 8) T8
      rw [e15, wy_sh hw, nI_clamp (n := mx_wo T (2 ^ j)) (by omega), y1 _ X8, nI_add]
      refine mv_gdI (by rw [i8 _ X8]; rfl) (mv_gdI (by rw [i8 _ X8]; rfl) ?_)
      refine ih _ (f1.tr (mx_fr.sI (mv_beq w))) (fun s hs => ?_)
      rw [mx_upI]
      show _ = nI (b s + cW * ((if T = s then 10 - sp_bits T else 0) + sp_cp T s (j + 1)))
      by_cases c : s = mx_wo T (2 ^ j)
      · rw [if_pos ⟨rfl, c⟩, es1 s q c.symm, ← c]
        show nI (b s + cW * ((if T = s then 10 - sp_bits T else 0) + sp_cp T s j) + cW) = _
        rw [← Nat.add_assoc (if T = s then 10 - sp_bits T else 0), Nat.mul_add cW _ 1, Nat.mul_one, Nat.add_assoc (b s)]
      · rw [if_neg (fun d => c d.2), y1 s hs, es0 s (fun d => c d.2.symm)]
def mx_sSw (a k : Nat) : Bool := Nat.beq a 50 && (Nat.beq k 14 || Nat.beq k 15)
theorem mx_sSwf {a k : Nat} (h : a ≠ 50 ∨ (k ≠ 14 ∧ k ≠ 15)) : mx_sSw a k = false := by
  unfold mx_sSw
  rcases h with c | c
  · rw [mv_bne c]; rfl
  · rw [mv_bne c.1, mv_bne c.2, Bool.or_false, Bool.and_false]
theorem InvS.swap {E : mv_E} {h : mv_H} {V : vw} {w w' : Nat} (hw : (w = 134 ∧ w' = 135) ∨ (w = 135 ∧ w' = 134)) (i : InvS E h V) : InvS E (mv_sR (mv_sR h 50 14 w') 50 15 w) V := by
  have z : mx_fz mx_sSw h (mv_sR (mv_sR h 50 14 w') 50 15 w) := (mx_fz.sR (S := mx_sSw) rfl).tr (mx_fz.sR (S := mx_sSw) rfl)
  have w1 : mv_R (mv_sR (mv_sR h 50 14 w') 50 15 w) 50 14 = w' := by rw [mx_upR, if_neg (by omega), mx_upR, if_pos ⟨rfl, rfl⟩]
  have w2 : mv_R (mv_sR (mv_sR h 50 14 w') 50 15 w) 50 15 = w := by rw [mx_upR, if_pos ⟨rfl, rfl⟩]
  generalize mv_sR (mv_sR h 50 14 w') 50 15 w = h' at z w1 w2
  have hr : ∀ a k, cr_reg a → mx_sSw a k = false := fun a k q => mx_sSwf (by unfold cr_reg at q; omega)
  obtain ⟨⟨⟨i1, i2, i3⟩, ⟨i4, i5⟩, i6, i7, i8, i9⟩, se⟩ := i
  have R132 : mv_R h' 132 = mv_R h 132 := z.Rr 132 (fun k => mx_sSwf (by omega))
  have im : ∀ j, j < 2 → i_img E h (vA V) (vHi V) j → i_img E h' (vA V) (vHi V) j := by
    intro j hj q
    unfold i_img
    rw [R132]
    rcases q with q | ⟨q1, q2, q3⟩
    · exact Or.inl q
    · exact Or.inr ⟨q1, q2.fz z hr, q3.fz z (fun k => mx_sSwf (by omega)) (fun k => mx_sSwf (by omega))⟩
  refine ⟨⟨⟨?_, i2.fz z (fun k => mx_sSwf (by omega)) (fun k => mx_sSwf (by omega)), i3.fz z (fun a k q => mx_sSwf (by omega))⟩, ⟨im 0 (by omega) i4, im 1 (by omega) i5⟩, fun u hu => (i6 u hu).fz z (fun k => mx_sSwf (by omega)) (fun k => mx_sSwf (by omega)), i7.fz z (mx_sSwf (by omega)) (fun k => mx_sSwf (by omega)), ?_, ?_⟩, se.fz z (fun a k q => mx_sSwf (by unfold cr_reg at q; omega))⟩
  · rw [(z.2.2 50 3 (mx_sSwf (by omega))).2.2]; exact i1.fz z hr
  · rw [z.I 52 (fun k => mx_sSwf (by omega))]; exact i8
  · unfold i_ways
    rw [w1, w2]
    rcases hw with c | c
    · exact Or.inr ⟨c.2, c.1⟩
    · exact Or.inl ⟨c.2, c.1⟩
theorem InvS.w {E : mv_E} {h h' : mv_H} {V : vw} {w : Nat} (hw : w = 134 ∨ w = 135) (i : InvS E h V) (f : mx_fr (fun a _ => Nat.beq a w) h h') : InvS E h' V := ⟨i.1.fz f.z (fun a k q => mv_bne (by omega)), i.2.fz f.z (fun a k q => mv_bne (by unfold cr_reg at q; omega))⟩
theorem fClw {h h' : mv_H} {w : Nat} (hw : w = 134 ∨ w = 135) (f : mx_fr (fun a _ => Nat.beq a w) h h') : fCl h h' := f.z.toC (fun a k q => mv_bne (by omega))
theorem cs169 {E : mv_E} {D k n : Nat} {h0 h : mv_H} {Q : mv_Q} {V : vw} {c : Nat → Nat} (w w' : Nat) (hw : (w = 134 ∧ w' = 135) ∨ (w = 135 ∧ w' = 134)) (i : InvS E h V) (f : fCl h0 h) (m : InvM V) (e14 : mv_R h 50 14 = w) (e15 : mv_R h 50 15 = w') (y : wy h w c) (hc : ∀ t, c t < 2 ^ 31 ∧ (sp_hold (vA V) < t → c t = 0)) (H : ∀ h', InvS E h' V → fCl h0 h' → mv_R h' 50 14 = w' → mv_R h' 50 15 = w → wy h' w' (sp_step (vA V) c) → Q none h') : mv_VE E (D + 4) k n 169 0 [some (.ref 50), none] [] h Q := by
  have p8 := m.p8
  have p2 := m.p2
  have hh := m.1.1.hold
  have hw1 : w = 134 ∨ w = 135 := by omega
  have hw2 : w' = 134 ∨ w' = 135 := by omega
  have nw : w ≠ w' := by omega
  apply sg169_0
  rw [e15]
  refine ct320 256 (wy_sh hw2 E h) (by omega) (fun h1 f1 z1 => ⟨rfl, ?_⟩)
  refine mx_loop (P := fun j => ∀ h2, InvS E h2 V → fCl h0 h2 → mv_R h2 50 14 = w → mv_R h2 50 15 = w' → wy h2 w c → wy h2 w' (fun s => sm (fun t => c t * sp_ct (sp_P (vA V)) (sp_week (vA V) t) s) j) → mv_VE E (D + 4) k n 169 10 [some (.ref 50), some (.int (nI j))] [] h2 Q) (sp_hold (vA V) + 1) ?_ ?_ h1 (i.w hw2 f1) (f.tr (fClw hw2 f1)) (by rw [f1.2.2.2.2]; exact e14) (by rw [f1.2.2.2.2]; exact e15) (y.o (f1.I w (fun k => mv_bne nw))) (fun s hs => z1 s hs)
  · intro h2 i2 f2 r14 r15 y2 y2'
    apply sg169_10
    rw [i2.hold m, r14, r15]
    refine mx_ltT (sp_hold (vA V)) (sp_hold (vA V) + 1) (by omega) (H _ (i2.swap hw) ?_ ?_ ?_ (fun s hs => ?_)) (by omega)
    · exact f2.tr (fun a k q => ⟨rfl, rfl⟩)
    · rw [mx_upR, if_neg (by omega), mx_upR, if_pos ⟨rfl, rfl⟩]
    · rw [mx_upR, if_pos ⟨rfl, rfl⟩]
    · have : mv_I (mv_sR (mv_sR h2 50 14 w') 50 15 w) w' s = mv_I h2 w' s := rfl
      rw [this, y2' s hs]
      congr 1
      exact (sm_ext (fun t ht => by rw [(hc t).2 (by omega), Nat.zero_mul]) 256 (by omega)).symm
  · intro j hj ih h2 i2 f2 r14 r15 y2 y2'
    have i8 : mv_in (nI j) 256 = true := mx_in j (by omega) (by omega)
    have hjP : j < 2 ^ sp_P (vA V) := by omega
    have es : ∀ s, sm (fun t => c t * sp_ct (sp_P (vA V)) (sp_week (vA V) t) s) (j + 1) = sm (fun t => c t * sp_ct (sp_P (vA V)) (sp_week (vA V) t) s) j + c j * sp_ct (sp_P (vA V)) (sp_week (vA V) j) s := fun s => rfl
    apply sg169_10
    rw [i2.hold m, r14, wy_sh hw1, nI_clamp (n := j) (by omega), y2 j (by omega), nI_1]
    refine mx_ltF (sp_hold (vA V)) j (by omega) (mv_gdI (by rw [i8]; rfl) ?_) (by omega)
    refine mx_lt 0 (c j) (fun q => ?_) (fun q => ?_) (by omega) (hc j).1
    · refine ct59 j i2.2 m.ok m.1.1.vb hjP rfl (fun h3 r3 s3 => ⟨_, rfl, ?_⟩)
      have i3 := i2.s5 r3 s3
      have f3 := f2.tr r3.fC5
      have q14 : mv_R h3 50 14 = w := by rw [r3.2.2.2.2]; exact r14
      have q15 : mv_R h3 50 15 = w' := by rw [r3.2.2.2.2]; exact r15
      have y3 : wy h3 w c := y2.o (r3.I w (fun k => mx_s5f (by omega)))
      have y3' := y2'.o (r3.I w' (fun k => mx_s5f (by omega)))
      rw [q14, wy_sh hw1, y3 j (by omega)]
      refine mv_gdI (by rw [i8]; rfl) ?_
      refine ct170 (A := vA V) (sp_week (vA V) j) (c j) w' hw2 q15 i3.1.1.1.1 m.ok (sp_week_lt hjP) y3' rfl rfl (fun h4 f4 y4 => ⟨rfl, ?_⟩)
      refine ih h4 (i3.w hw2 f4) (f3.tr (fClw hw2 f4)) (by rw [f4.2.2.2.2]; exact q14) (by rw [f4.2.2.2.2]; exact q15) (y3.o (f4.I w (fun k => mv_bne nw))) (fun s hs => ?_)
      rw [y4 s hs]
      exact congrArg nI (es s).symm
    · refine ih h2 i2 f2 r14 r15 y2 (fun s hs => ?_)
      rw [y2' s hs]
      show nI (sm (fun t => c t * sp_ct (sp_P (vA V)) (sp_week (vA V) t) s) j) = nI (sm (fun t => c t * sp_ct (sp_P (vA V)) (sp_week (vA V) t) s) (j + 1))
      rw [es, show c j = 0 by omega, Nat.zero_mul, Nat.add_zero]
theorem cs168 {E : mv_E} {D k n : Nat} {h : mv_H} {Q : mv_Q} {V : vw} {x : Int32} (N : Nat) (hN : N ≤ 8) (i : InvC E h V) (m : InvM V) (e : x = nI N) (H : ∀ h' w, (w = 134 ∨ w = 135) → InvS E h' V → fCl h h' → mv_R h' 50 14 = w → wy h' w (sp_ch (vA V) N) → Q (some (.long (lN (10 ^ N)))) h') : mv_VE E (D + 5) k n 168 0 [some (.ref 50), some (.int x), none, none, none] [] h Q := by
  subst e
  have p2 := m.p2
  have hh := m.1.1.hold
  apply sg168_0
  refine cc51 i m rfl (fun h1 f1 i1 => ⟨rfl, ?_⟩)
  obtain ⟨w, w', hw, e14, e15⟩ : ∃ w w', ((w = 134 ∧ w' = 135) ∨ (w = 135 ∧ w' = 134)) ∧ mv_R h1 50 14 = w ∧ mv_R h1 50 15 = w' := by
    rcases i1.1.2.2.2.2.2 with q | q
    · exact ⟨134, 135, by omega, q.1, q.2⟩
    · exact ⟨135, 134, by omega, q.1, q.2⟩
  have hw1 : w = 134 ∨ w = 135 := by omega
  rw [e14]
  refine ct320 256 (wy_sh hw1 E h1) (by omega) (fun h2 f2 z2 => ⟨rfl, ?_⟩)
  have i2 := i1.w hw1 f2
  have r14 : mv_R h2 50 14 = w := by rw [f2.2.2.2.2]; exact e14
  have r15 : mv_R h2 50 15 = w' := by rw [f2.2.2.2.2]; exact e15
  rw [r14, wy_sh hw1, i2.hold m, mx_255 (by omega), nI_clamp (n := sp_hold (vA V)) (by omega)]
  refine mv_gdI (by rw [mx_in (sp_hold (vA V)) (by omega) (by omega)]; rfl) ?_
  have f3 : mx_fr (fun a (_ : Nat) => Nat.beq a w) h2 (mv_sI h2 w (sp_hold (vA V)) 1) := mx_fr.sI (mv_beq w)
  have y3 : wy (mv_sI h2 w (sp_hold (vA V)) 1) w (sp_ch (vA V) 0) := fun s hs => by
    rw [mx_upI]
    show _ = nI (if sp_hold (vA V) = s then 1 else 0)
    by_cases c : s = sp_hold (vA V)
    · rw [if_pos ⟨rfl, c⟩, if_pos c.symm]; rfl
    · rw [if_neg (fun d => c d.2), if_neg (fun d => c d.symm), z2 s hs]; rfl
  refine mx_loop (P := fun j => ∀ h4 w w', ((w = 134 ∧ w' = 135) ∨ (w = 135 ∧ w' = 134)) → InvS E h4 V → fCl h h4 → mv_R h4 50 14 = w → mv_R h4 50 15 = w' → wy h4 w (sp_ch (vA V) j) → mv_VE E (D + 5) k n 168 45 [some (.ref 50), some (.int (nI N)), some (.long (lN (10 ^ j))), none, some (.int (nI j))] [] h4 Q) N ?_ ?_ _ w w' hw (i2.w hw1 f3) ((f1.fC6.tr (fClw hw1 f2)).tr (fClw hw1 f3)) r14 r15 y3
  · intro h4 w w' hw i4 f4 q14 q15 y4
    apply sg168_45
    exact mx_ltF N N (Nat.le_refl _) (H h4 w (by omega) i4 f4 q14 y4) (by omega)
  · intro j hj ih h4 w w' hw i4 f4 q14 q15 y4
    apply sg168_45
    rw [nI_1, show lN (10 ^ j) * (10 : Int64) = lN (10 ^ j * 10) from lN_mul _ 10, ← Nat.pow_succ]
    refine mx_ltT j N hj ?_ (by omega)
    refine cs169 w w' hw i4 f4 m q14 q15 y4 (fun t => ⟨?_, fun ht => sp_ch_0 ht⟩) (fun h5 i5 f5 s14 s15 y5 => ⟨rfl, ih h5 w' w (by omega) i5 f5 s14 s15 y5⟩)
    have := sp_ch_le m.1.1 (i := j) (s := t) (by omega)
    omega
theorem cc166 {E : mv_E} {D k n : Nat} {h : mv_H} {Q : mv_Q} {V : vw} {x y : Int32} (i : InvC E h V) (m : InvM V) (H : ∀ h', InvC E h' V → fCl h h' → Q (some (.int (v_chance V x y))) h') : mv_VE E (D + 6) k n 166 0 [some (.ref 50), some (.int x), some (.int y), none, none, none, none, none, none] [] h Q := by
  have p2 := m.p2
  have hh := m.1.1.hold
  apply sg166_0
  rw [mx_167]
  unfold v_chance at H
  refine mx_if (fun q => ?_) (fun q => ?_)
  · rw [if_pos q] at H
    obtain ⟨N, hN, rfl⟩ := sp_noc0 q
    rw [nI_clamp (by omega)] at H
    refine cs168 N hN i m rfl (fun h1 w hw i1 f1 r14 y1 => ⟨_, rfl, ?_⟩)
    have e256 : sp_abC (vA V) N (sp_hold (vA V) + 1) = sp_abC (vA V) N 256 := (sm_ext (fun t ht => by
      show cond (sp_float (vA V) t) (sp_ch (vA V) N t) 0 = 0
      rw [sp_ch_0 (by omega)]
      cases sp_float (vA V) t <;> rfl) 256 (by omega)).symm
    have p10 : 10 ^ N ≤ 10 ^ 8 := Nat.pow_le_pow_right (by omega) hN
    have p10' : 0 < 10 ^ N := Nat.pow_pos (by omega)
    refine mx_loop (P := fun j => ∀ h2, InvS E h2 V → fCl h h2 → mv_R h2 50 14 = w → wy h2 w (sp_ch (vA V) N) → mv_VE E (D + 6) k n 166 25 [some (.ref 50), none, some (.int y), none, some (.long (lN (10 ^ N))), none, some (.long (lN (sp_abC (vA V) N j))), none, some (.int (nI j))] [] h2 Q) (sp_hold (vA V) + 1) ?_ ?_ h1 i1 f1 r14 y1
    · intro h2 i2 f2 _ _
      have := sp_abC_le m.1.1 (n := N) hN 256 (Nat.le_refl _)
      apply sg166_25
      rw [i2.hold m, e256]
      refine mx_ltT (sp_hold (vA V)) (sp_hold (vA V) + 1) (by omega) ?_ (by omega)
      exact ct142 (sp_abC (vA V) N 256) (10 ^ N) (by omega) (by omega) p10' rfl rfl ⟨_, rfl, H h2 (i2.C m) f2⟩
    · intro j hj ih h2 i2 f2 s14 y2
      have i8 : mv_in (nI j) 256 = true := mx_in j (by omega) (by omega)
      have cl := sp_ch_le m.1.1 (i := N) (s := j) hN
      have es : sp_abC (vA V) N (j + 1) = sp_abC (vA V) N j + cond (sp_float (vA V) j) (sp_ch (vA V) N j) 0 := rfl
      rw [es] at ih
      apply sg166_25
      rw [i2.hold m, s14, wy_sh hw, nI_clamp (n := j) (by omega), y2 j (by omega), nI_1]
      refine mx_ltF (sp_hold (vA V)) j (by omega) (mv_gdI (by rw [i8]; rfl) ?_) (by omega)
      refine mx_lt 0 (sp_ch (vA V) N j) (fun q2 => ?_) (fun q2 => ?_) (by omega) (by omega)
      · refine ct57 j i2.2 m.ok m.1.1.vb (by omega) rfl (fun h3 r3 s3 => ⟨_, rfl, ?_⟩)
        have t14 : mv_R h3 50 14 = w := by rw [r3.2.2.2.2]; exact s14
        have y3 : wy h3 w (sp_ch (vA V) N) := y2.o (r3.I w (fun k => mx_s5f (by omega)))
        have ih := ih h3 (i2.s5 r3 s3) (f2.tr r3.fC5) t14 y3
        refine mx_ifB _ (fun z => ?_) (fun z => ?_)
        · rw [z, cond_false, Nat.add_zero] at ih; exact ih
        · rw [z, cond_true] at ih
          rw [t14, wy_sh hw, y3 j (by omega), nI_l (by omega), lN_add]
          exact mv_gdI (by rw [i8]; rfl) ih
      · have ih := ih h2 i2 f2 s14 y2
        have z0 : cond (sp_float (vA V) j) (sp_ch (vA V) N j) 0 = 0 := by
          rw [show sp_ch (vA V) N j = 0 by omega]
          cases sp_float (vA V) j <;> rfl
        rw [z0, Nat.add_zero] at ih
        exact ih
  · rw [if_neg q] at H; exact H h i fCl.rf
theorem cc171 {E : mv_E} {D k n : Nat} {h : mv_H} {Q : mv_Q} {V : vw} {x y : Int32} (i : InvC E h V) (m : InvM V) (H : ∀ h', InvC E h' V → fCl h h' → Q (some (.int (v_mean V x y))) h') : mv_VE E (D + 6) k n 171 0 [some (.ref 50), some (.int x), some (.int y), none, none, none, none, none, none] [] h Q := by
  have p2 := m.p2
  have hh := m.1.1.hold
  apply sg171_0
  rw [mx_167]
  unfold v_mean at H
  refine mx_if (fun q => ?_) (fun q => ?_)
  · rw [if_pos q] at H
    obtain ⟨N, hN, rfl⟩ := sp_noc0 q
    rw [nI_clamp (by omega)] at H
    refine cs168 N hN i m rfl (fun h1 w hw i1 f1 r14 y1 => ⟨_, rfl, ?_⟩)
    have e256 : sp_abM (vA V) N (sp_hold (vA V) + 1) = sp_abM (vA V) N 256 := (sm_ext (fun t ht => by
      show sp_ch (vA V) N t * sp_bits t = 0
      rw [sp_ch_0 (by omega), Nat.zero_mul]) 256 (by omega)).symm
    have p10 : 10 ^ N ≤ 10 ^ 8 := Nat.pow_le_pow_right (by omega) hN
    have p10' : 0 < 10 ^ N := Nat.pow_pos (by omega)
    refine mx_loop (P := fun j => mv_VE E (D + 6) k n 171 25 [some (.ref 50), none, some (.int y), none, some (.long (lN (10 ^ N))), none, some (.long (lN (sp_abM (vA V) N j))), none, some (.int (nI j))] [] h1 Q) (sp_hold (vA V) + 1) ?_ ?_
    · have := sp_abM_le m.1.1 (n := N) hN 256 (Nat.le_refl _)
      apply sg171_25
      rw [i1.hold m, e256]
      refine mx_ltT (sp_hold (vA V)) (sp_hold (vA V) + 1) (by omega) ?_ (by omega)
      exact ct142 (sp_abM (vA V) N 256) (10 ^ N) (by omega) (by omega) p10' rfl rfl ⟨_, rfl, H h1 (i1.C m) f1⟩
    · intro j hj ih
      have i8 : mv_in (nI j) 256 = true := mx_in j (by omega) (by omega)
      have cl := sp_ch_le m.1.1 (i := N) (s := j) hN
      have bl := sp_bits_le j
      have es : sp_abM (vA V) N (j + 1) = sp_abM (vA V) N j + sp_ch (vA V) N j * sp_bits j := rfl
      rw [es] at ih
      apply sg171_25
      rw [i1.hold m, r14, wy_sh hw, nI_clamp (n := j) (by omega), y1 j (by omega), nI_1, mx_305 j (by omega), nI_l (by omega), nI_l (by omega), lN_mul, lN_add]
      exact mx_ltF (sp_hold (vA V)) j (by omega) (mv_gdI (by rw [i8]; rfl) ih) (by omega)
  · rw [if_neg q] at H; exact H h i fCl.rf
