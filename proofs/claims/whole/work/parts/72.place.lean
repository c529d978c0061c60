/-! Placing: what the search keeps. -/
theorem sp_bits_or1 {a k : Nat} (X : Nat) (hk : k < 8) (h : a.testBit k = false) : sp_bits ((a ||| 2 ^ k) &&& X) = sp_bits (a &&& X) + (X.testBit k).toNat := by
  rw [sp_bits_eq, sp_bits_eq]
  simp only [Nat.testBit_and, Nat.testBit_or, Nat.testBit_two_pow]
  rcases (by omega : k = 0 ∨ k = 1 ∨ k = 2 ∨ k = 3 ∨ k = 4 ∨ k = 5 ∨ k = 6 ∨ k = 7) with rfl | rfl | rfl | rfl | rfl | rfl | rfl | rfl <;> simp [h] <;> omega
theorem sp_bits_or2 {a k : Nat} (hk : k < 8) (h : a.testBit k = false) : sp_bits (a ||| 2 ^ k) = sp_bits a + 1 := by
  rw [sp_bits_eq, sp_bits_eq]
  simp only [Nat.testBit_or, Nat.testBit_two_pow]
  rcases (by omega : k = 0 ∨ k = 1 ∨ k = 2 ∨ k = 3 ∨ k = 4 ∨ k = 5 ∨ k = 6 ∨ k = 7) with rfl | rfl | rfl | rfl | rfl | rfl | rfl | rfl <;> simp [h] <;> omega
theorem sp_more_s (A : Nat → Int32) (pl : Nat → Nat) (p place j : Nat) : mx_fold (fun q a => a + ((sp_Qr A p).testBit q && (sp_B A place).testBit (pl q)).toNat) 0 (j + 1) = mx_fold (fun q a => a + ((sp_Qr A p).testBit q && (sp_B A place).testBit (pl q)).toNat) 0 j + ((sp_Qr A p).testBit j && (sp_B A place).testBit (pl j)).toNat := rfl
def sp_mr (A : Nat → Int32) (pl : Nat → Nat) (p place : Nat) : Nat → Nat := mx_fold (fun q a => a + ((sp_Qr A p).testBit q && (sp_B A place).testBit (pl q)).toNat) 0
theorem sp_mr_s (A : Nat → Int32) (pl : Nat → Nat) (p place j : Nat) : sp_mr A pl p place (j + 1) = sp_mr A pl p place j + ((sp_Qr A p).testBit j && (sp_B A place).testBit (pl j)).toNat := rfl
theorem sp_mr_is (A : Nat → Int32) (pl : Nat → Nat) (p place : Nat) : sp_more A pl p place = sp_mr A pl p place p := rfl
theorem sp_mr_le (A : Nat → Int32) (pl : Nat → Nat) (p place : Nat) : ∀ j, sp_mr A pl p place j ≤ j
  | 0 => Nat.le_refl _
  | j + 1 => by
    rw [sp_mr_s]
    have := sp_mr_le A pl p place j
    have := mx_tn ((sp_Qr A p).testBit j && (sp_B A place).testBit (pl j))
    omega
theorem sp_mr_cg {A : Nat → Int32} {pl pl' : Nat → Nat} {p place : Nat} : ∀ j, (∀ q, q < j → pl q = pl' q) → sp_mr A pl p place j = sp_mr A pl' p place j
  | 0, _ => rfl
  | j + 1, h => by rw [sp_mr_s, sp_mr_s, sp_mr_cg j (fun q hq => h q (by omega)), h j (by omega)]
abbrev gst : Type := Nat × (Nat → Nat) × (Nat → Nat)
def sp_gf (A : Nat → Int32) (f p taken n : Nat) (st : gst) : Nat → gst := mx_fold (fun pl st => cond (taken.testBit pl) st (sp_gp A f (p + 1) (taken ||| 2 ^ pl) (n + sp_more A (mx_upN st.2.2 p pl) p pl) (st.1, st.2.1, mx_upN st.2.2 p pl))) st
theorem sp_gf_0 (A : Nat → Int32) (f p taken n : Nat) (st : gst) : sp_gf A f p taken n st 0 = st := rfl
theorem sp_gf_s (A : Nat → Int32) (f p taken n : Nat) (st : gst) (i : Nat) : sp_gf A f p taken n st (i + 1) = cond (taken.testBit i) (sp_gf A f p taken n st i) (sp_gp A f (p + 1) (taken ||| 2 ^ i) (n + sp_more A (mx_upN (sp_gf A f p taken n st i).2.2 p i) p i) ((sp_gf A f p taken n st i).1, (sp_gf A f p taken n st i).2.1, mx_upN (sp_gf A f p taken n st i).2.2 p i)) := rfl
theorem sp_gp_s (A : Nat → Int32) (f p taken n : Nat) (st : gst) : sp_gp A (f + 1) p taken n st = if st.1 ≤ n then st else if p = sp_P A then (n, st.2.2, st.2.2) else sp_gf A f p taken n st (sp_P A) := rfl
theorem mx_upNn (f : Nat → Nat) {k j : Nat} (x : Nat) (h : j ≠ k) : mx_upN f k x j = f j := by unfold mx_upN; rw [if_neg h]
theorem mx_upNs (f : Nat → Nat) (k x : Nat) : mx_upN f k x k = x := by unfold mx_upN; rw [if_pos rfl]
theorem sp_gp_pl {A : Nat → Int32} : ∀ f p taken n (st : gst) q, q < p → (sp_gp A f p taken n st).2.2 q = st.2.2 q := by
  intro f
  induction f with
  | zero => intro p taken n st q _; rfl
  | succ f ih =>
    intro p taken n st q hq
    rw [sp_gp_s]
    by_cases c : st.1 ≤ n
    · rw [if_pos c]
    · rw [if_neg c]
      by_cases d : p = sp_P A
      · rw [if_pos d]
      · rw [if_neg d]
        have : ∀ i, (sp_gf A f p taken n st i).2.2 q = st.2.2 q := by
          intro i
          induction i with
          | zero => rfl
          | succ i ih2 =>
            rw [sp_gf_s]
            cases taken.testBit i with
            | true => exact ih2
            | false =>
              rw [cond_false, ih _ _ _ _ q (by omega)]
              show mx_upN _ p i q = _
              rw [mx_upNn _ _ (by omega)]; exact ih2
        exact this _
theorem sp_gf_pl {A : Nat → Int32} {f p taken n : Nat} {st : gst} {q : Nat} (hq : q < p) : ∀ i, (sp_gf A f p taken n st i).2.2 q = st.2.2 q
  | 0 => rfl
  | i + 1 => by
    rw [sp_gf_s]
    cases taken.testBit i with
    | true => exact sp_gf_pl hq i
    | false =>
      rw [cond_false, sp_gp_pl _ _ _ _ _ q (by omega)]
      show mx_upN _ p i q = _
      rw [mx_upNn _ _ (by omega)]; exact sp_gf_pl hq i
theorem sp_gp_le {A : Nat → Int32} : ∀ f p taken n (st : gst), (sp_gp A f p taken n st).1 ≤ st.1 := by
  intro f
  induction f with
  | zero => intro p taken n st; exact Nat.le_refl _
  | succ f ih =>
    intro p taken n st
    rw [sp_gp_s]
    by_cases c : st.1 ≤ n
    · rw [if_pos c]; exact Nat.le_refl _
    · rw [if_neg c]
      by_cases d : p = sp_P A
      · rw [if_pos d]; show n ≤ st.1; omega
      · rw [if_neg d]
        have : ∀ i, (sp_gf A f p taken n st i).1 ≤ st.1 := by
          intro i
          induction i with
          | zero => exact Nat.le_refl _
          | succ i ih2 =>
            rw [sp_gf_s]
            cases taken.testBit i with
            | true => exact ih2
            | false =>
              rw [cond_false]
              exact Nat.le_trans (ih _ _ _ _) ih2
        exact this _
/-- those placed stand at places of their own -/
def PI (A : Nat → Int32) (p taken n : Nat) (pl : Nat → Nat) : Prop := p ≤ sp_P A ∧ taken < 2 ^ sp_P A ∧ sp_bits taken = p ∧ n ≤ 7 * p ∧ (∀ q, q < p → pl q < sp_P A ∧ taken.testBit (pl q) = true) ∧ ∀ q q', q < p → q' < p → pl q = pl q' → q = q'
theorem PI.cg {A : Nat → Int32} {p taken n : Nat} {pl pl' : Nat → Nat} (h : PI A p taken n pl) (e : ∀ q, q < p → pl' q = pl q) : PI A p taken n pl' := by
  obtain ⟨h1, h2, h3, h4, h5, h6⟩ := h
  refine ⟨h1, h2, h3, h4, fun q hq => by rw [e q hq]; exact h5 q hq, fun q q' hq hq' z => ?_⟩
  rw [e q hq, e q' hq'] at z
  exact h6 q q' hq hq' z
theorem PI.s {A : Nat → Int32} {p taken n : Nat} {pl : Nat → Nat} (h : PI A p taken n pl) (p8 : sp_P A ≤ 8) (hp : p < sp_P A) {i : Nat} (hi : i < sp_P A) (hb : taken.testBit i = false) : PI A (p + 1) (taken ||| 2 ^ i) (n + sp_more A (mx_upN pl p i) p i) (mx_upN pl p i) := by
  obtain ⟨h1, h2, h3, h4, h5, h6⟩ := h
  have hm := sp_mr_le A (mx_upN pl p i) p i p
  rw [← sp_mr_is] at hm
  refine ⟨by omega, mx_or_lt h2 hi, by rw [sp_bits_or2 (by omega) hb, h3], by omega, fun q hq => ?_, fun q q' hq hq' z => ?_⟩
  · by_cases c : q = p
    · rw [c, mx_upNs]
      exact ⟨hi, by rw [Nat.testBit_or, Nat.testBit_two_pow_self, Bool.or_true]⟩
    · rw [mx_upNn _ _ c]
      obtain ⟨a, b⟩ := h5 q (by omega)
      exact ⟨a, by rw [Nat.testBit_or, b]; rfl⟩
  · by_cases c : q = p
    · by_cases d : q' = p
      · omega
      · rw [c, mx_upNs, mx_upNn _ _ d] at z
        have e := (h5 q' (by omega)).2
        rw [← z, hb] at e; cases e
    · by_cases d : q' = p
      · rw [d, mx_upNs, mx_upNn _ _ c] at z
        have e := (h5 q (by omega)).2
        rw [z, hb] at e; cases e
      · rw [mx_upNn _ _ c, mx_upNn _ _ d] at z
        exact h6 q q' (by omega) (by omega) z
theorem sp_free {taken P : Nat} (h8 : P ≤ 8) (hT : taken < 2 ^ P) (hb : sp_bits taken < P) : ∃ i, i < P ∧ taken.testBit i = false := by
  by_cases c : ∃ i, i < P ∧ taken.testBit i = false
  · exact c
  · exfalso
    have e : taken = 2 ^ P - 1 := by
      apply Nat.eq_of_testBit_eq
      intro j
      rw [Nat.testBit_two_pow_sub_one]
      by_cases d : j < P
      · rw [decide_eq_true d]
        cases z : taken.testBit j with
        | true => rfl
        | false => exact absurd ⟨j, d, z⟩ c
      · rw [decide_eq_false d, Nat.testBit_lt_two_pow (Nat.lt_of_lt_of_le hT (Nat.pow_le_pow_right (by omega) (by omega)))]
    rw [e, sp_bits_P P h8] at hb
    omega
theorem sp_gp_99 {A : Nat → Int32} (p8 : sp_P A ≤ 8) : ∀ f p taken n (st : gst), PI A p taken n st.2.2 → sp_P A - p < f → (sp_gp A f p taken n st).1 < 99 := by
  intro f
  induction f with
  | zero => intro p taken n st _ h; omega
  | succ f ih =>
    intro p taken n st pi hf
    have p1 := pi.1
    have n7 := pi.2.2.2.1
    rw [sp_gp_s]
    by_cases c : st.1 ≤ n
    · rw [if_pos c]; omega
    · rw [if_neg c]
      by_cases d : p = sp_P A
      · rw [if_pos d]; show n < 99; omega
      · rw [if_neg d]
        obtain ⟨i0, hi0, hb0⟩ := sp_free p8 pi.2.1 (by rw [pi.2.2.1]; omega)
        have key : ∀ i, i ≤ sp_P A → i0 < i → (sp_gf A f p taken n st i).1 < 99 := by
          intro i
          induction i with
          | zero => intro _ h; omega
          | succ i ih2 =>
            intro hi hlt
            rw [sp_gf_s]
            cases z : taken.testBit i with
            | true =>
              rw [cond_true]
              refine ih2 (by omega) ?_
              rcases (by omega : i0 < i ∨ i0 = i) with q | q
              · exact q
              · rw [q, z] at hb0; cases hb0
            | false =>
              rw [cond_false]
              exact ih _ _ _ _ ((pi.cg (fun q hq => sp_gf_pl hq i)).s p8 (by omega) (by omega) z) (by omega)
        exact key _ (Nat.le_refl _) hi0
theorem PI0 (A : Nat → Int32) (pl : Nat → Nat) : PI A 0 0 0 pl := ⟨Nat.zero_le _, Nat.pow_pos (by omega), rfl, Nat.le_refl _, fun q hq => by omega, fun q q' hq => by omega⟩
/-- where those stand with whom one quarrels -/
def sp_foe (A : Nat → Int32) (pl : Nat → Nat) (p : Nat) : Nat → Nat := mx_fold (fun q a => cond ((sp_Qr A p).testBit q) (a ||| 2 ^ pl q) a) 0
theorem sp_foe_s (A : Nat → Int32) (pl : Nat → Nat) (p j : Nat) : sp_foe A pl p (j + 1) = cond ((sp_Qr A p).testBit j) (sp_foe A pl p j ||| 2 ^ pl j) (sp_foe A pl p j) := rfl
theorem sp_foe_bit {A : Nat → Int32} {pl : Nat → Nat} {p k : Nat} : ∀ j, (sp_foe A pl p j).testBit k = true → ∃ q, q < j ∧ pl q = k
  | 0, h => by
    have h : (0 : Nat).testBit k = true := h
    rw [Nat.zero_testBit] at h; cases h
  | j + 1, h => by
    rw [sp_foe_s] at h
    cases z : (sp_Qr A p).testBit j with
    | false =>
      rw [z, cond_false] at h
      obtain ⟨q, a, b⟩ := sp_foe_bit j h
      exact ⟨q, by omega, b⟩
    | true =>
      rw [z, cond_true, Nat.testBit_or, Bool.or_eq_true] at h
      rcases h with h | h
      · obtain ⟨q, a, b⟩ := sp_foe_bit j h
        exact ⟨q, by omega, b⟩
      · rw [Nat.testBit_two_pow] at h
        exact ⟨j, by omega, by simpa using h⟩
theorem sp_foe_lt {A : Nat → Int32} {pl : Nat → Nat} {p : Nat} : ∀ j, (∀ q, q < j → pl q < 8) → sp_foe A pl p j < 256
  | 0, _ => by show 0 < 256; omega
  | j + 1, h => by
    have ih := sp_foe_lt (A := A) (p := p) j (fun q hq => h q (by omega))
    rw [sp_foe_s]
    cases (sp_Qr A p).testBit j with
    | false => exact ih
    | true => exact Nat.or_lt_two_pow (n := 8) ih (Nat.pow_lt_pow_right (by omega) (h j (by omega)))
theorem sp_foe_cnt {A : Nat → Int32} {pl : Nat → Nat} {p place : Nat} : ∀ j, (∀ q, q < j → pl q < 8) → (∀ q q', q < j → q' < j → pl q = pl q' → q = q') → sp_bits (sp_foe A pl p j &&& sp_B A place) = sp_mr A pl p place j
  | 0, _, _ => by
    show sp_bits (0 &&& sp_B A place) = 0
    rw [Nat.zero_and]; rfl
  | j + 1, h, hi => by
    have ih := sp_foe_cnt (A := A) (p := p) (place := place) j (fun q hq => h q (by omega)) (fun q q' hq hq' => hi q q' (by omega) (by omega))
    rw [sp_foe_s, sp_mr_s]
    cases z : (sp_Qr A p).testBit j with
    | false => rw [cond_false, ih]; rfl
    | true =>
      rw [cond_true, sp_bits_or1 _ (h j (by omega)), ih, Bool.true_and]
      cases w : (sp_foe A pl p j).testBit (pl j) with
      | false => rfl
      | true =>
        obtain ⟨q, a, b⟩ := sp_foe_bit j w
        have := hi q j (by omega) (by omega) b
        omega
def v_placing (V : vw) (x : Int32) : Int32 := if x = 0 then nI (sp_plc (vA V)).1 else if x < 10 then -2 else cond (pn (vA V) (x - 10)) (nI ((sp_plc (vA V)).2.1 (x - 10).toNatClampNeg)) (-2)
-- the model
def GM (A : Nat → Int32) (h : mv_H) (p : Nat) (st : gst) : Prop := mv_I h 148 25 = (if st.1 = 99 then 268435456 else nI st.1) ∧ st.1 ≤ 99 ∧ (∀ q, q < p → mv_I h 156 q = nI (st.2.2 q)) ∧ (st.1 < 99 → ∀ q, q < sp_P A → mv_I h 157 q = nI (st.2.1 q))
theorem GM.lt {A : Nat → Int32} {h : mv_H} {p n : Nat} {st : gst} {X Y : Prop} (g : GM A h p st) (hn : n < 99) (f : n < st.1 → X) (e : st.1 ≤ n → Y) : if nI n < mv_I h 148 25 then X else Y := by
  rw [g.1]
  by_cases c : st.1 = 99
  · rw [if_pos c]
    exact mx_ltT n 268435456 (by omega) (f (by omega)) (by omega)
  · rw [if_neg c]
    have := g.2.1
    exact mx_lt n st.1 f e (by omega) (by omega)
theorem cw275 {E : mv_E} {h0 : mv_H} {V : vw} (m : InvM V) : ∀ f p taken n (st : gst) D k l h (Q : mv_Q), PI (vA V) p taken n st.2.2 → sp_P (vA V) - p < f → f + 2 ≤ D → fM V h0 h → GM (vA V) h p st → (∀ h', fM V h0 h' → GM (vA V) h' p (sp_gp (vA V) f p taken n st) → Q none h') → mv_VE E D k l 275 0 [some (.ref 148), some (.int (nI p)), some (.int (nI taken)), some (.int (nI n)), none, none, none] [] h Q := by
  have p8 := m.p8
  have p2 := m.p2
  intro f
  induction f with
  | zero => intro p taken n st D k l h Q _ h; omega
  | succ f ih =>
    intro p taken n st D k l h Q pi hf hD fm g K
    obtain ⟨D1, rfl⟩ : ∃ D1, D = D1 + 2 := ⟨D - 2, by omega⟩
    have p1 := pi.1
    have tl := pi.2.1
    have n7 := pi.2.2.2.1
    rw [sp_gp_s] at K
    rw [show D1 + 2 = (D1 + 1) + 1 by omega]
    apply sg275_0
    refine g.lt (by omega) (fun q => ?_) (fun q => ?_)
    · rw [if_neg (by omega)] at K
      rw [fm.A, m.ok.1]
      refine mx_eq p (sp_P (vA V)) (fun w => ?_) (fun w => ?_) (by omega) (by omega)
      · rw [if_pos w] at K
        refine mx_loop (P := fun j => ∀ h1, fM V h0 h1 → mv_I h1 148 25 = nI n → mv_I h1 156 = mv_I h 156 → (∀ q, q < j → mv_I h1 157 q = mv_I h 156 q) → mv_VE E (D1 + 1 + 1) k l 275 27 [some (.ref 148), none, none, none, some (.int (nI j)), none, none] [] h1 Q) 8 ?_ ?_ _ (fm.sc (a := 148) (k := 25) rfl (by omega)) mx_Iss (funext fun j => mx_InE (by omega)) (fun q hq => by omega)
        · intro h1 f1 e1 e2 e3
          apply sg275_27
          refine mx_ltF 8 8 (Nat.le_refl _) (K h1 f1 ⟨?_, ?_, fun q hq => ?_, fun _ q hq => ?_⟩) (by omega)
          · show mv_I h1 148 25 = if n = 99 then 268435456 else nI n
            rw [if_neg (by omega)]; exact e1
          · show n ≤ 99; omega
          · rw [e2]; exact g.2.2.1 q hq
          · show mv_I h1 157 q = nI (st.2.2 q)
            rw [e3 q (by omega)]; exact g.2.2.1 q (by omega)
        · intro j hj ihj h1 f1 e1 e2 e3
          apply sg275_27
          rw [nI_clamp (n := j) (by omega), nI_1]
          have i8 : (true && mv_in (nI j) 8) = true := mx_inT j hj (by omega)
          refine mx_ltT j 8 hj (mv_gdI i8 (mv_gdI i8 (ihj _ (f1.sc (a := 157) rfl (by omega)) (by rw [mx_InE (by omega)]; exact e1) (by rw [← e2]; exact funext fun j => mx_InE (by omega)) (fun q hq => ?_)))) (by omega)
          rw [mx_upI]
          by_cases c : q = j
          · rw [if_pos ⟨rfl, c⟩, c, e2]
          · rw [if_neg (fun d => c d.2)]; exact e3 q (by omega)
      · rw [if_neg w] at K
        have hp : p < sp_P (vA V) := by omega
        refine mx_loop (P := fun i => ∀ h1, fM V h0 h1 → GM (vA V) h1 p (sp_gf (vA V) f p taken n st i) → mv_VE E (D1 + 1 + 1) k l 275 58 [some (.ref 148), some (.int (nI p)), some (.int (nI taken)), some (.int (nI n)), some (.int (nI i)), none, none] [] h1 Q) (sp_P (vA V)) ?_ ?_ h fm g
        · intro h1 f1 g1
          apply sg275_58
          rw [f1.A, m.ok.1]
          exact mx_ltF (sp_P (vA V)) (sp_P (vA V)) (Nat.le_refl _) (K h1 f1 g1) (by omega)
        · intro i hi ihi h1 f1 g1
          rw [sp_gf_s] at ihi
          have ppl : ∀ q, q < p → (sp_gf (vA V) f p taken n st i).2.2 q = st.2.2 q := fun q hq => sp_gf_pl hq i
          generalize hst : sp_gf (vA V) f p taken n st i = st1 at ihi g1 ppl
          have pi1 : PI (vA V) p taken n st1.2.2 := pi.cg ppl
          apply sg275_58
          rw [f1.A, m.ok.1, nI_clamp (n := p) (by omega), nI_1]
          refine mx_ltT i (sp_P (vA V)) hi ?_ (by omega)
          refine mx_cdb (taken.testBit i) (mx_isIn (by omega) (by omega)) (fun z => ?_) (fun z => ?_)
          · rw [z, cond_true] at ihi; exact ihi h1 f1 g1
          · rw [z, cond_false] at ihi
            refine mv_gdI (mx_inT p (by omega) (by omega)) ?_
            have qp : (vA V) (33 + p) = nI (sp_Qr (vA V) p) ∧ sp_Qr (vA V) p < 2 ^ sp_P (vA V) := (m.1.1.2.2.1 p hp).2.2
            have bp := m.ok.2.2.1 i hi
            have g2 : GM (vA V) (mv_sI h1 156 p (nI i)) (p + 1) (st1.1, st1.2.1, mx_upN st1.2.2 p i) := by
              refine ⟨?_, g1.2.1, fun q hq => ?_, fun c q hq => ?_⟩
              · rw [mx_InE (by omega)]; exact g1.1
              · rw [mx_upI]
                by_cases c : q = p
                · rw [if_pos ⟨rfl, c⟩, c]
                  show nI i = nI (mx_upN st1.2.2 p i p)
                  rw [mx_upNs]
                · rw [if_neg (fun d => c d.2)]
                  show _ = nI (mx_upN st1.2.2 p i q)
                  rw [mx_upNn _ _ c]; exact g1.2.2.1 q (by omega)
              · rw [mx_InE (by omega)]; exact g1.2.2.2 c q hq
            have f2 : fM V h0 (mv_sI h1 156 p (nI i)) := f1.sc (a := 156) rfl (by omega)
            generalize mv_sI h1 156 p (nI i) = h2 at g2 f2
            refine mx_loop (P := fun j => mv_VE E (D1 + 1 + 1) k l 275 96 [some (.ref 148), some (.int (nI p)), some (.int (nI taken)), some (.int (nI n)), some (.int (nI i)), some (.int (nI (sp_mr (vA V) (mx_upN st1.2.2 p i) p i j))), some (.int (nI j))] [] h2 Q) p ?_ ?_
            · have ml := sp_mr_le (vA V) (mx_upN st1.2.2 p i) p i p
              rw [show D1 + 1 + 1 = D1 + 2 by omega]
              apply sg275_96
              rw [nI_1 p, nI_1 i, mx_1shl (by omega), mx_or, nI_add]
              refine mx_ltF p p (Nat.le_refl _) ?_ (by omega)
              refine ih (p + 1) (taken ||| 2 ^ i) (n + sp_mr (vA V) (mx_upN st1.2.2 p i) p i p) (st1.1, st1.2.1, mx_upN st1.2.2 p i) _ 0 0 h2 _ (pi1.s p8 hp hi z) (by omega) (by omega) f2 g2 (fun h3 f3 g3 => ⟨rfl, ?_⟩)
              exact ihi h3 f3 ⟨g3.1, g3.2.1, fun q hq => g3.2.2.1 q (by omega), g3.2.2.2⟩
            · intro j hj ihj
              rw [sp_mr_s] at ihj
              have pj := (pi1.s p8 hp hi z).2.2.2.2.1 j (by omega)
              have ej : mv_I h2 156 j = nI (mx_upN st1.2.2 p i j) := g2.2.2.1 j (by omega)
              rw [show D1 + 1 + 1 = D1 + 2 by omega]
              apply sg275_96
              rw [show (33 : Int32) + nI p = nI (33 + p) from nI_add 33 p, show (25 : Int32) + nI i = nI (25 + i) from nI_add 25 i, nI_clamp (n := 33 + p) (by omega), nI_clamp (n := 25 + i) (by omega), nI_clamp (n := j) (by omega), f2.A, qp.1, bp.1, ej, nI_1, nI_1]
              refine mx_ltT j p hj (mv_gdI (mx_inT (33 + p) (by omega) (by omega)) ?_) (by omega)
              rw [show nI (sp_mr (vA V) (mx_upN st1.2.2 p i) p i j) + (0 : Int32) = nI (sp_mr (vA V) (mx_upN st1.2.2 p i) p i j + 0) from nI_add _ 0]
              refine mx_cdb ((sp_Qr (vA V) p).testBit j) (mx_isIn (by omega) (by omega)) (fun a => ?_) (fun a => ?_)
              · rw [a, Bool.true_and] at ihj
                refine mv_gdI (mx_inT (25 + i) (by omega) (by omega)) (mv_gdI (mx_inT j (by omega) (by omega)) ?_)
                refine mx_cdb ((sp_B (vA V) i).testBit (mx_upN st1.2.2 p i j)) (mx_isIn (by omega) (by omega)) (fun b => ?_) (fun b => ?_)
                · rw [b] at ihj; exact ihj
                · rw [b] at ihj; exact ihj
              · rw [a, Bool.false_and] at ihj; exact ihj
    · rw [if_pos q] at K
      exact K h fm g
theorem cm274 {E : mv_E} {D k n : Nat} {h : mv_H} {Q : mv_Q} {V : vw} {x : Int32} (e : vw_of h = V) (m : InvM V) (H : ∀ h', fM V h h' → Q (some (.int (v_placing V x))) h') : mv_VE E (D + 20) k n 274 0 [some (.ref 148), some (.int x)] [] h Q := by
  have f0 := fM.of e
  have p8 := m.p8
  have h99 := sp_gp_99 p8 9 0 0 0 (99, fun _ => 0, fun _ => 0) (PI0 _ _) (by omega)
  have h99 : (sp_plc (vA V)).1 < 99 := h99
  have f1 : fM V h (mv_sI (mv_sI h 148 0 0) 148 25 268435456) := f0.sc (a := 148) (k := 25) rfl (by omega)
  have seek : ∀ (Q' : mv_Q), (∀ h', fM V h h' → mv_I h' 148 25 = nI (sp_plc (vA V)).1 → (∀ q, q < sp_P (vA V) → mv_I h' 157 q = nI ((sp_plc (vA V)).2.1 q)) → Q' none h') → mv_VE E (D + 18 + 1) 0 0 275 0 [some (.ref 148), some (.int 0), some (.int 0), some (.int 0), none, none, none] [] (mv_sI (mv_sI h 148 0 0) 148 25 268435456) Q' := by
    intro Q' K
    refine cw275 m 9 0 0 0 (99, fun _ => 0, fun _ => 0) _ 0 0 _ _ (PI0 _ _) (by omega) (by omega) f1 ⟨?_, Nat.le_refl _, fun q hq => by omega, fun c => absurd c (by show ¬ 99 < 99; omega)⟩ (fun h2 f2 g2 => K h2 f2 ?_ ?_)
    · rw [mx_Iss]; rfl
    · have g21 : mv_I h2 148 25 = if (sp_plc (vA V)).1 = 99 then 268435456 else nI (sp_plc (vA V)).1 := g2.1
      rw [g21, if_neg (show ¬ (sp_plc (vA V)).1 = 99 by omega)]
    · exact g2.2.2.2 h99
  rw [show D + 20 = D + 18 + 2 by omega]
  apply sg274_0
  unfold v_placing at H
  refine mx_if (fun q => ?_) (fun q => mx_if (fun r => ?_) (fun r => ?_))
  · rw [if_pos q] at H
    exact seek _ (fun h2 f2 e1 e2 => ⟨rfl, by rw [if_pos q, e1]; exact H h2 f2⟩)
  · rw [if_neg q, if_pos r] at H; exact H _ f0
  · rw [if_neg q, if_neg r] at H
    have e1 : pf210 (mv_sI h 148 0 0) (x - 10).toInt64 = pn (vA V) (x - 10) := by rw [pn210 (by rw [f0.A]; exact m.ok), f0.A]
    refine mx_cdb _ e1 (fun z => ?_) (fun z => ?_)
    · rw [z, cond_true] at H
      refine seek _ (fun h2 f2 e1 e2 => ⟨rfl, ?_⟩)
      rw [if_neg q]
      obtain ⟨p, hp, ep⟩ := pnT m.ok z
      rw [ep, nI_clamp (by omega)] at H ⊢
      rw [e2 p hp]
      exact mv_gdI (mx_inT p (by omega) (by omega)) (H h2 f2)
    · rw [z] at H; exact H _ f0
