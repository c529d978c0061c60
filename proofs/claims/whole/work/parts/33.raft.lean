/-! A Raft of the class, and what its methods answer. -/
def cr_ad (r : Nat) : Prop := r = 61 ∨ r = 71 ∨ r = 98 ∨ 165 ≤ r
def cr_sh (E : mv_E) (h : mv_H) (r : Nat) : Prop := cr_ad r ∧ mv_KE E h r = (3, 16) ∧ (mv_RE E h r 5 = r + 1 ∧ mv_KE E h (r + 1) = (20, 8)) ∧ (mv_RE E h r 6 = r + 2 ∧ mv_KE E h (r + 2) = (20, 8)) ∧ (mv_RE E h r 7 = r + 3 ∧ mv_KE E h (r + 3) = (20, 8)) ∧ (mv_RE E h r 8 = r + 4 ∧ mv_KE E h (r + 4) = (20, 24)) ∧ (mv_RE E h r 9 = r + 5 ∧ mv_KE E h (r + 5) = (20, 8)) ∧ (mv_RE E h r 10 = r + 6 ∧ mv_KE E h (r + 6) = (20, 8)) ∧ (mv_RE E h r 15 = r + 9 ∧ mv_KE E h (r + 9) = (20, 8)) ∧ ((mv_KE E h (r + 7)).1 = 20 ∧ (mv_KE E h (r + 8)).1 = 20) ∧ r + 9 < h.1
def cr_vl (h : mv_H) (r : Nat) (A : Nat → Int32) : Prop := mv_I h r 0 = A 1 ∧ mv_I h r 1 = A 2 ∧ mv_I h r 2 = A 0 ∧ (∀ p, p < 8 → mv_I h (r + 2) p = A (9 + p)) ∧ (∀ p, p < 8 → mv_I h (r + 3) p = A (17 + p)) ∧ (∀ p, p < 8 → mv_I h (r + 5) p = A (25 + p)) ∧ (∀ p, p < 8 → mv_I h (r + 6) p = A (33 + p)) ∧ (∀ p, p < 24 → mv_I h (r + 4) p = A (41 + p))
def cr_law (E : mv_E) (h : mv_H) (r : Nat) (A : Nat → Int32) (l : Nat) : Prop := ∃ L, mv_KE E h (mv_RE E h r (11 + l)) = (20, L) ∧ (mv_RE E h r (11 + l) = r + 7 + l ∨ (165 ≤ mv_RE E h r (11 + l) ∧ ∀ j, 1 ≤ j → j ≤ 9 → (mv_KE E h (mv_RE E h r (11 + l) - j)).1 ≠ 3)) ∧ mv_RE E h r (11 + l) < h.1 ∧ ((A (3 + l) = 0 ∧ L = 0) ∨ (A (3 + l) = 1 ∧ L = sp_N A l ∧ ∀ i, i < L → mv_I h (mv_RE E h r (11 + l)) i = nI (cr_tr (sp_C A l i))))
def cr_ok (E : mv_E) (h : mv_H) (r : Nat) (A : Nat → Int32) : Prop := cr_sh E h r ∧ cr_vl h r A ∧ cr_law E h r A 0 ∧ cr_law E h r A 1
theorem ct29 {E : mv_E} {D k n : Nat} {h : mv_H} {Q : mv_Q} {r : Nat} {A : Nat → Int32} (cr : cr_ok E h r A) (ok : sp_ok A) (H : Q (some (.int (nI (2 ^ sp_P A - 1)))) h) : mv_VE E D k n 29 0 [some (.ref r)] [] h Q := by
  apply sg29_0
  rw [cr.1.2.1, cr.2.1.1, ok.1, mx_1shl (by have := ok.2.1; omega), show nI (2 ^ sp_P A) - (1 : Int32) = nI (2 ^ sp_P A - 1) from pk_sub (b := 1) (Nat.pow_pos (by omega))]
  exact mv_gdI rfl H
theorem ct28 {E : mv_E} {D k n : Nat} {h : mv_H} {Q : mv_Q} {r : Nat} {A : Nat → Int32} {x1 x2 : Int32} (p i : Nat) (cr : cr_ok E h r A) (hp : p < 8) (hi : i < 3) (e1 : x1 = nI p) (e2 : x2 = nI i) (H : Q (some (.int (A (41 + 3 * p + i)))) h) : mv_VE E D k n 28 0 [some (.ref r), some (.int x1), some (.int x2), none] [] h Q := by
  subst e1; subst e2
  obtain ⟨⟨-, s1, -, -, -, ⟨s2, s3⟩, -⟩, ⟨-, -, -, -, -, -, -, v1⟩, -⟩ := cr
  apply sg28_0
  rw [show nI p * (3 : Int32) = nI (p * 3) from pk_mul p 3, nI_add, s1, s2, s3, nI_clamp (by omega), v1 _ (by omega), show 41 + (p * 3 + i) = 41 + 3 * p + i by omega]
  refine mx_ltF (p * 3 + i) 0 (by omega) ?_ (by omega)
  refine mv_gdI rfl (mv_gdI rfl ?_)
  refine mx_ltT (p * 3 + i) 24 (by omega) ?_ (by omega)
  exact mv_gdI rfl (mv_gdI (mx_inT (p * 3 + i) (by omega) (by omega)) H)
theorem ct34 {E : mv_E} {D k n : Nat} {h : mv_H} {Q : mv_Q} {r : Nat} {A : Nat → Int32} {x1 : Int32} (s : Nat) (cr : cr_ok E h r A) (ok : sp_ok A) (hs : s < 2 ^ 31) (e1 : x1 = nI s) (H : Q (some (.int (sp_sum A 17 s (sp_P A)))) h) : mv_VE E D k n 34 0 [some (.ref r), some (.int x1), none, none] [] h Q := by
  subst e1
  obtain ⟨⟨-, s1, -, -, ⟨s2, s3⟩, -⟩, ⟨v1, -, -, -, v2, -⟩, -⟩ := cr
  have h8 := ok.2.1
  apply sg34_0
  refine mx_loop (P := fun i => mv_VE E D k n 34 4 [some (.ref r), some (.int (nI s)), some (.int (sp_sum A 17 s i)), some (.int (nI i))] [] h Q) (sp_P A) ?_ ?_
  · apply sg34_4
    rw [s1, v1, ok.1]
    refine mv_gdI rfl ?_
    exact mx_ltF (sp_P A) (sp_P A) (Nat.le_refl _) H (by omega)
  · intro i hi ih
    have e : sp_sum A 17 s (i + 1) = sp_sum A 17 s i + cond (s.testBit i) (A (17 + i)) 0 := rfl
    rw [e] at ih
    apply sg34_4
    rw [s1, s2, s3, v1, ok.1, nI_clamp (n := i) (by omega), v2 i (by omega), nI_1]
    refine mv_gdI rfl ?_
    refine mx_ltT i (sp_P A) hi ?_ (by omega)
    refine mx_ifb (s.testBit i) (mx_bit0 hs (by omega)) (fun b => ?_) (fun b => ?_)
    · rw [b] at ih
      have : sp_sum A 17 s i + cond false (A (17 + i)) 0 = sp_sum A 17 s i := Int32.add_zero _
      rw [this] at ih
      exact ih
    · rw [b] at ih
      exact mv_gdI rfl (mv_gdI (mx_inT i (by omega) (by omega)) ih)
theorem ct30 {E : mv_E} {D k n : Nat} {h : mv_H} {Q : mv_Q} {r : Nat} {A : Nat → Int32} (cr : cr_ok E h r A) (ok : sp_ok A) (H : Q (some (.int (sp_sum A 9 (2 ^ sp_P A - 1) (sp_P A)))) h) : mv_VE E D k n 30 0 [some (.ref r), none, none] [] h Q := by
  obtain ⟨⟨-, s1, -, ⟨s2, s3⟩, -⟩, ⟨v1, -, -, v2, -⟩, -⟩ := cr
  have h8 := ok.2.1
  apply sg30_0
  refine mx_loop (P := fun i => mv_VE E D k n 30 4 [some (.ref r), some (.int (sp_sum A 9 (2 ^ sp_P A - 1) i)), some (.int (nI i))] [] h Q) (sp_P A) ?_ ?_
  · apply sg30_4
    rw [s1, v1, ok.1]
    refine mv_gdI rfl ?_
    exact mx_ltF (sp_P A) (sp_P A) (Nat.le_refl _) H (by omega)
  · intro i hi ih
    have e : sp_sum A 9 (2 ^ sp_P A - 1) (i + 1) = sp_sum A 9 (2 ^ sp_P A - 1) i + cond ((2 ^ sp_P A - 1).testBit i) (A (9 + i)) 0 := rfl
    rw [e, Nat.testBit_two_pow_sub_one, decide_eq_true hi] at ih
    apply sg30_4
    rw [s1, s2, s3, v1, ok.1, nI_clamp (n := i) (by omega), v2 i (by omega), nI_1]
    refine mv_gdI rfl ?_
    refine mx_ltT i (sp_P A) hi ?_ (by omega)
    exact mv_gdI rfl (mv_gdI (mx_inT i (by omega) (by omega)) ih)
theorem ct32 {E : mv_E} {D k n : Nat} {h : mv_H} {Q : mv_Q} {r : Nat} {A : Nat → Int32} {x1 x2 : Int32} (p s : Nat) (cr : cr_ok E h r A) (ok : sp_ok A) (hs : s < 2 ^ sp_P A) (hp : s.testBit p = true) (e1 : x1 = nI p) (e2 : x2 = nI s) (H : Q (some (.int (nI (sp_piece (sp_B A) (sp_P A) s p)))) h) : mv_VE E D k n 32 0 [some (.ref r), some (.int x1), some (.int x2), none, none, none, none] [] h Q := by
  subst e1; subst e2
  obtain ⟨⟨-, s1, -, -, -, -, ⟨s2, s3⟩, -⟩, ⟨v1, -, -, -, -, v2, -⟩, -⟩ := cr
  have h8 := ok.2.1
  have hp2 := mx_p2 h8
  have hpP := sp_tb_lt hs hp
  have hbp : ∀ j, (2 ^ p).testBit j = true ↔ p = j := by intro j; rw [Nat.testBit_two_pow]; simp
  apply sg32_0
  rw [mx_1shl (by omega), mx_and]
  have e0 : 2 ^ p &&& s = 2 ^ p := by
    apply Nat.eq_of_testBit_eq
    intro j
    rw [Nat.testBit_and]
    cases q : (2 ^ p).testBit j with
    | false => rfl
    | true => rw [← (hbp j).mp q, hp]; rfl
  rw [e0]
  have key : ∀ f i x, f = sp_P A - i → i ≤ sp_P A → x.testBit p = true → sp_sub x s → (∀ Y, Y.testBit p = true → sp_cld (sp_B A) (sp_P A) s Y → sp_sub x Y) → i + 1 ≤ sp_bits x → mv_VE E D k n 32 9 [some (.ref r), none, some (.int (nI s)), some (.int (nI x)), some (.int (nI i)), none, none] [] h Q := by
    intro f
    induction f with
    | zero =>
      intro i x hf hi h1 h2 h3 h4
      have := sp_bits_leP (sp_sub_lt h2 hs) h8
      omega
    | succ f ih =>
      intro i x hf hi h1 h2 h3 h4
      have hx : x < 256 := Nat.lt_of_lt_of_le (sp_sub_lt h2 hs) hp2
      apply sg32_9
      rw [s1, v1, ok.1]
      refine mv_gdI rfl ?_
      refine mx_ltT i (sp_P A) (by omega) ?_ (by omega)
      refine mx_loop (P := fun q => mv_VE E D k n 32 24 [some (.ref r), none, some (.int (nI s)), some (.int (nI x)), some (.int (nI i)), some (.int (nI (cr_grow (sp_B A) s x q))), some (.int (nI q))] [] h Q) (sp_P A) ?_ ?_
      · apply sg32_24
        rw [s1, v1, ok.1]
        refine mv_gdI rfl ?_
        refine mx_ltF (sp_P A) (sp_P A) (Nat.le_refl _) ?_ (by omega)
        have g2 := cr_grow_s (B := sp_B A) h2 (sp_P A)
        have gl : cr_grow (sp_B A) s x (sp_P A) < 256 := Nat.lt_of_lt_of_le (sp_sub_lt g2 hs) hp2
        refine mx_eq (cr_grow (sp_B A) s x (sp_P A)) x (fun z => ?_) (fun z => ?_) (by omega) (by omega)
        · have : sp_isPc (sp_B A) (sp_P A) s p x := ⟨h1, h2, cr_grow_fix z, h3⟩
          rw [sp_isPc_un this (sp_piece_ok (by omega) hp)]
          exact H
        · rw [nI_1]
          have sb := cr_grow_le (B := sp_B A) (s := s) (x := x) (sp_P A) 0 (by omega)
          have lt := sp_bits_lt sb (fun c => z c.symm) hx gl
          have lt : sp_bits x < sp_bits (cr_grow (sp_B A) s x (sp_P A)) := lt
          exact ih (i + 1) _ (by omega) (by omega) (sb p h1) g2 (fun Y y1 y2 => cr_grow_cl y2 (h3 Y y1 y2) _ (Nat.le_refl _)) (by omega)
      · intro q hq ih2
        have gl : cr_grow (sp_B A) s x q < 256 := Nat.lt_of_lt_of_le (sp_sub_lt (cr_grow_s (B := sp_B A) h2 q) hs) hp2
        have e : cr_grow (sp_B A) s x (q + 1) = cond ((cr_grow (sp_B A) s x q).testBit q) (cr_grow (sp_B A) s x q ||| (sp_B A q &&& s)) (cr_grow (sp_B A) s x q) := rfl
        rw [e] at ih2
        apply sg32_24
        rw [s1, s2, s3, v1, ok.1, nI_clamp (n := q) (by omega), v2 q (by omega), (ok.2.2.1 q hq).1, mx_and, mx_or, nI_1, nI_1]
        refine mv_gdI rfl ?_
        refine mx_ltT q (sp_P A) hq ?_ (by omega)
        refine mx_ifb ((cr_grow (sp_B A) s x q).testBit q) (mx_bit0 (by omega) (by omega)) (fun b => ?_) (fun b => ?_)
        · rw [b] at ih2; exact ih2
        · rw [b] at ih2
          exact mv_gdI rfl (mv_gdI (mx_inT q (by omega) (by omega)) ih2)
  refine key (sp_P A) 0 (2 ^ p) (by omega) (by omega) ((hbp p).mpr rfl) ?_ ?_ ?_
  · intro j hj; rw [← (hbp j).mp hj]; exact hp
  · intro Y y1 y2 j hj; rw [← (hbp j).mp hj]; exact y1
  · exact (by decide +kernel : ∀ p, p < 8 → 0 + 1 ≤ sp_bits (2 ^ p)) p (by omega)
theorem ct31 {E : mv_E} {D k n : Nat} {h : mv_H} {Q : mv_Q} {r : Nat} {A : Nat → Int32} {x1 : Int32} (s : Nat) (cr : cr_ok E h r A) (ok : sp_ok A) (hs : s < 2 ^ sp_P A) (e1 : x1 = nI s) (H : Q (some (.int (nI (sp_pieces (sp_B A) (sp_P A) s)))) h) : mv_VE E (D + 1) k n 31 0 [some (.ref r), some (.int x1), none, none, none] [] h Q := by
  subst e1
  have s1 := cr.1.2.1
  have v1 := cr.2.1.1
  have h8 := ok.2.1
  have hp2 := mx_p2 h8
  apply sg31_0
  refine mx_loop (P := fun i => mv_VE E (D + 1) k n 31 7 [some (.ref r), some (.int (nI s)), some (.int (nI (sp_left (sp_B A) (sp_P A) s i).1)), some (.int (nI (sp_left (sp_B A) (sp_P A) s i).2)), some (.int (nI i))] [] h Q) (sp_P A) ?_ ?_
  · apply sg31_7
    rw [s1, v1, ok.1]
    refine mv_gdI rfl ?_
    exact mx_ltF (sp_P A) (sp_P A) (Nat.le_refl _) H (by omega)
  · intro i hi ih
    have hl := sp_left_lt (sp_B A) (sp_P A) s (by omega) i
    have e : sp_left (sp_B A) (sp_P A) s (i + 1) = cond ((sp_left (sp_B A) (sp_P A) s i).1.testBit i) (mx_wo (sp_left (sp_B A) (sp_P A) s i).1 (sp_piece (sp_B A) (sp_P A) s i), (sp_left (sp_B A) (sp_P A) s i).2 + 1) (sp_left (sp_B A) (sp_P A) s i) := rfl
    rw [e] at ih
    apply sg31_7
    rw [s1, v1, ok.1, nI_1, nI_1]
    refine mv_gdI rfl ?_
    refine mx_ltT i (sp_P A) hi ?_ (by omega)
    refine mx_ifb ((sp_left (sp_B A) (sp_P A) s i).1.testBit i) (mx_bit0 (by omega) (by omega)) (fun b => ?_) (fun b => ?_)
    · rw [b] at ih; exact ih
    · refine mv_gdI rfl ?_
      refine ct32 i s cr ok hs (sp_left_sub _ _ _ i i b) rfl rfl ⟨_, rfl, ?_⟩
      rw [mx_andn]
      rw [b] at ih; exact ih
