/-! Floating, letting go, weeks: the model. -/
def sp_P (A : Nat → Int32) : Nat := (A 1).toNatClampNeg
def sp_B (A : Nat → Int32) (q : Nat) : Nat := (A (25 + q)).toNatClampNeg
def sp_F (A : Nat → Int32) (l : Nat) : Nat := (A (5 + l)).toNatClampNeg
def sp_N (A : Nat → Int32) (l : Nat) : Nat := (A (7 + l)).toNatClampNeg
def sp_C (A : Nat → Int32) (l i : Nat) : Nat := (A (188 + sp_F A l + i)).toNatClampNeg
def sp_lw (A : Nat → Int32) (l : Nat) : Prop := A (3 + l) = 0 ∨ (A (3 + l) = 1 ∧ A (5 + l) = nI (sp_F A l) ∧ A (7 + l) = nI (sp_N A l) ∧ sp_F A l + sp_N A l ≤ 900 ∧ (∀ i, i < sp_N A l → A (188 + sp_F A l + i) = nI (sp_C A l i)) ∧ sp_cks l (sp_C A l) (sp_N A l) = some [true])
def sp_ok (A : Nat → Int32) : Prop := A 1 = nI (sp_P A) ∧ sp_P A ≤ 8 ∧ (∀ q, q < sp_P A → A (25 + q) = nI (sp_B A q) ∧ sp_B A q < 2 ^ sp_P A) ∧ sp_lw A 0 ∧ sp_lw A 1
def sp_wF (A : Nat → Int32) (s j : Nat) : Int32 := match j with
  | 0 => nI (sp_bits s)
  | 1 => A 74
  | 2 => sp_sum A 66 s (sp_P A)
  | 3 => sp_sum A 9 (2 ^ sp_P A - 1) (sp_P A)
  | 7 => nI (sp_pieces (sp_B A) (sp_P A) s)
  | _ => 0
def sp_float (A : Nat → Int32) (s : Nat) : Bool := if A 1 = 0 ∨ A 4 = 0 then !decide (sp_sum A 66 s (sp_P A) < sp_sum A 9 (2 ^ sp_P A - 1) (sp_P A)) else sp_ans (sp_wF A s) (sp_C A 1) (sp_N A 1)
def sp_wL (A : Nat → Int32) (s p j : Nat) : Int32 := match j with
  | 0 => nI (sp_bits s)
  | 1 => A 74
  | 2 => A (66 + p)
  | 3 => A (9 + p)
  | 4 => nI p
  | 5 => nI (sp_bits (sp_B A p &&& s))
  | 6 => nI (sp_bits (mx_wo (sp_B A p) s))
  | _ => 0
def sp_lets (A : Nat → Int32) (s p : Nat) : Bool := s.testBit p && (!decide (A 3 = 0) && sp_ans (sp_wL A s p) (sp_C A 0) (sp_N A 0))
def sp_gone (A : Nat → Int32) (s : Nat) : Nat → Nat := mx_fold (fun p a => a ||| cond (sp_lets A s p) (2 ^ p) 0) 0
def sp_week (A : Nat → Int32) (s : Nat) : Nat := mx_wo s (sp_gone A s (sp_P A))
def mx_s2 (a _ : Nat) : Bool := Nat.beq a 153 || Nat.beq a 154
theorem mx_b01 (b : Bool) : (decide (nI b.toNat = 0) || decide (nI b.toNat = 1)) = true := by cases b <;> decide
theorem mx_p2 {n : Nat} (h : n ≤ 8) : 2 ^ n ≤ 256 := Nat.pow_le_pow_right (n := 2) (by omega) h
theorem mx_219 {h : mv_H} {P : Nat} (hP : mv_I h 149 1 = nI P) (h8 : P ≤ 8) : pf219 h = nI (2 ^ P - 1) := by
  unfold pf219
  rw [hP, mx_1shl (by omega)]
  exact pk_sub (b := 1) (Nat.pow_pos (by omega))
theorem ct220 {E : mv_E} {D k n : Nat} {h : mv_H} {Q : mv_Q} {x1 : Int32} (s : Nat) (ok : sp_ok (mv_I h 149)) (hs : s < 256) (e1 : x1 = nI s) (H : ∀ h', mx_fr mx_s2 h h' → Q (some (.int (nI (sp_float (mv_I h 149) s).toNat))) h') : mv_VE E (D + 3) k n 220 0 [some (.ref 148), some (.int x1), none, none] [] h Q := by
  subst e1
  obtain ⟨hP, h8, hB, -, l1⟩ := ok
  have hH := H h mx_fr.rf
  unfold sp_float at H hH
  have hp2 := mx_p2 h8
  apply sg220_0
  refine ct221 66 s _ hP (by omega) (by omega) (by omega) rfl rfl ⟨_, rfl, ?_⟩
  refine ct221 9 (2 ^ sp_P (mv_I h 149) - 1) _ hP (by omega) (by omega) (by omega) rfl (mx_219 hP h8) ⟨_, rfl, ?_⟩
  have fin : (A1 : mv_I h 149 1 = 0 ∨ mv_I h 149 4 = 0) → (if sp_sum (mv_I h 149) 66 s (sp_P (mv_I h 149)) < sp_sum (mv_I h 149) 9 (2 ^ sp_P (mv_I h 149) - 1) (sp_P (mv_I h 149)) then Q (some (.int 0)) h else Q (some (.int 1)) h) := by
    intro A1
    rw [if_pos A1] at hH
    refine mx_if (fun q => ?_) (fun q => ?_)
    · rw [decide_eq_true q] at hH; exact hH
    · rw [decide_eq_false q] at hH; exact hH
  refine mx_if (fun q => fin (Or.inl q)) (fun q => ?_)
  refine mx_if (fun q2 => fin (Or.inr q2)) (fun q2 => ?_)
  refine ct214 s (by omega) rfl ⟨_, rfl, ?_⟩
  refine ct222 s _ _ hP h8 (fun q hq => (hB q hq).1) hs rfl ⟨_, rfl, ?_⟩
  rcases l1 with l1 | ⟨l1, l2, l3, l4, l5, l6⟩
  · exact absurd l1 q2
  refine ct215 1 _ _ _ (sp_wF (mv_I h 149) s) (by omega) l3 l2 l4 l5 l6 (fun j hj => ?_) rfl (fun h' fr => ⟨_, rfl, mv_gdI (mx_b01 _) ?_⟩)
  · unfold sp_okw at hj
    simp only [Bool.or_eq_true, Bool.and_eq_true, decide_eq_true_eq] at hj
    rcases (by omega : j = 0 ∨ j = 1 ∨ j = 2 ∨ j = 3 ∨ j = 7) with rfl | rfl | rfl | rfl | rfl <;> rfl
  · have := H h' ((mx_fr.sI (S := mx_s2) (a := 154) (k := 0) rfl).tr ((mx_fr.sI (S := mx_s2) (a := 154) (k := 1) rfl).tr ((mx_fr.sI (S := mx_s2) (a := 154) (k := 2) rfl).tr ((mx_fr.sI (S := mx_s2) (a := 154) (k := 3) rfl).tr ((mx_fr.sI (S := mx_s2) (a := 154) (k := 7) rfl).tr (fr.to (fun a k q => by unfold mx_s2 at q; unfold mx_s1; cases z : Nat.beq a 153 <;> rw [z] at q <;> first | rfl | cases q)))))))
    rw [if_neg (fun c => c.elim q q2)] at this
    exact this
